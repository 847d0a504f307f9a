/-! WHAT EACH METHOD COMES TO, group k: laid by wip/gen/wpall.py -/
set_option maxRecDepth 20000 in
/-- CodeMakerModel.prove from 0 on -/
theorem w387_0 (xs : List Int32) (d : Nat) (l1 : Int32) (m : yM) (Q : Option Value → yM → Prop) (H : (yC (xg xs) d 388 [.ref 58, .int l1] m (fun v1 m1 => ∃ u1, v1 = some (Value.int u1) ∧ ((u1 ≤ (64 : Int32) → yP (xg xs) (d + 1) 387 18 [(0, .ref 58), (1, .int l1)] [.int (0 : Int32), .int (51 : Int32), .ref 58] m1 Q) ∧ (¬ u1 ≤ (64 : Int32) → yP (xg xs) (d + 1) 387 18 [(0, .ref 58), (1, .int l1)] [.int (1 : Int32), .int (51 : Int32), .ref 58] m1 Q))))) : yP (xg xs) (d + 1) 387 0 [(0, .ref 58), (1, .int l1)] [] m Q := by
  refine y_st rfl rfl rfl rfl rfl (fun _ _ => rfl) ?_
  refine y_st rfl rfl rfl rfl rfl (fun _ _ => rfl) ?_
  refine y_st rfl rfl rfl rfl rfl (fun _ _ => rfl) ?_
  refine y_st rfl rfl rfl rfl rfl (fun _ _ => rfl) ?_
  show yP (xg xs) (d + 1) 387 5 [(0, .ref 58), (1, .int l1)] [.int l1, .ref 58, .int (51 : Int32), .ref 58] m Q
  refine y_call rfl rfl rfl rfl rfl (Nat.le_of_ble_eq_true rfl) (Nat.le_of_ble_eq_true rfl) rfl (by decide) H (fun v1 m1 H => ?_)
  obtain ⟨u1, rfl, H⟩ := H
  refine y_st rfl rfl rfl rfl rfl (fun _ _ => rfl) ?_
  show yP (xg xs) (d + 1) 387 10 [(0, .ref 58), (1, .int l1)] [.int (64 : Int32), .int u1, .int (51 : Int32), .ref 58] m1 Q
  refine y_ile (t := 17) rfl rfl rfl (fun h => ?_) (fun h => ?_)
  · replace H := H.1 h; clear h
    refine y_st rfl rfl rfl rfl rfl (fun _ _ => rfl) ?_
    show yP (xg xs) (d + 1) 387 18 [(0, .ref 58), (1, .int l1)] [.int (0 : Int32), .int (51 : Int32), .ref 58] m1 Q
    exact H
  · replace H := H.2 h; clear h
    refine y_st rfl rfl rfl rfl rfl (fun _ _ => rfl) ?_
    refine y_st rfl rfl rfl rfl rfl (fun _ _ => rfl) ?_
    show yP (xg xs) (d + 1) 387 18 [(0, .ref 58), (1, .int l1)] [.int (1 : Int32), .int (51 : Int32), .ref 58] m1 Q
    exact H
set_option maxRecDepth 20000 in
/-- CodeMakerModel.prove from 18 on -/
theorem w387_18 (xs : List Int32) (d : Nat) (l1 : Int32) (s1 : Int32) (s2 : Int32) (m : yM) (Q : Option Value → yM → Prop) (H : (x_in l1 400 = true ∧ (yC (xg xs) d 323 [.ref 58, .int s1, .int s2, .int (m.1 70 l1.toNatClampNeg)] m (fun v1 m1 => v1 = none ∧ (x_in (l1 + (1 : Int32)) 401 = true ∧ (x_in l1 401 = true ∧ (yC (xg xs) d 390 [.ref 58, .int l1, .int (0 : Int32), .int ((m1.1 93 ((l1 + (1 : Int32)).toNatClampNeg)) - (m1.1 93 l1.toNatClampNeg))] m1 (fun v2 m2 => v2 = none ∧ (yC (xg xs) d 392 [.long (m2.2 58 58), .long (m2.2 58 60)] m2 (fun v3 m3 => ∃ u3, v3 = some (Value.long u3) ∧ (x_in l1 400 = true ∧ (x_in l1 400 = true ∧ (((lg_cmp ((y_sl m3 94 l1.toNatClampNeg u3).2 94 l1.toNatClampNeg) (1000000000 : Int64)) ≤ 0 → yP (xg xs) (d + 1) 387 86 [(0, .ref 58), (1, .int l1)] [.int (0 : Int32), .int (52 : Int32), .ref 58] (y_sl m3 94 l1.toNatClampNeg u3) Q) ∧ (¬ (lg_cmp ((y_sl m3 94 l1.toNatClampNeg u3).2 94 l1.toNatClampNeg) (1000000000 : Int64)) ≤ 0 → yP (xg xs) (d + 1) 387 86 [(0, .ref 58), (1, .int l1)] [.int (1 : Int32), .int (52 : Int32), .ref 58] (y_sl m3 94 l1.toNatClampNeg u3) Q)))))))))))))) : yP (xg xs) (d + 1) 387 18 [(0, .ref 58), (1, .int l1)] [.int s2, .int s1, .ref 58] m Q := by
  refine y_st rfl rfl rfl rfl rfl (fun _ _ => rfl) ?_
  refine y_gf rfl rfl rfl rfl rfl ?_
  refine y_st rfl rfl rfl rfl rfl (fun _ _ => rfl) ?_
  show yP (xg xs) (d + 1) 387 23 [(0, .ref 58), (1, .int l1)] [.int l1, .ref 70, .int s2, .int s1, .ref 58] m Q
  refine y_iald rfl rfl rfl (H.1) ?_
  replace H := H.2
  show yP (xg xs) (d + 1) 387 24 [(0, .ref 58), (1, .int l1)] [.int (m.1 70 l1.toNatClampNeg), .int s2, .int s1, .ref 58] m Q
  refine y_call rfl rfl rfl rfl rfl (Nat.le_of_ble_eq_true rfl) (Nat.le_of_ble_eq_true rfl) rfl (by decide) H (fun v1 m1 H => ?_)
  obtain ⟨rfl, H⟩ := H
  refine y_st rfl rfl rfl rfl rfl (fun _ _ => rfl) ?_
  refine y_st rfl rfl rfl rfl rfl (fun _ _ => rfl) ?_
  refine y_st rfl rfl rfl rfl rfl (fun _ _ => rfl) ?_
  refine y_st rfl rfl rfl rfl rfl (fun _ _ => rfl) ?_
  refine y_gf rfl rfl rfl rfl rfl ?_
  refine y_st rfl rfl rfl rfl rfl (fun _ _ => rfl) ?_
  refine y_st rfl rfl rfl rfl rfl (fun _ _ => rfl) ?_
  refine y_st rfl rfl rfl rfl rfl (fun _ _ => rfl) ?_
  show yP (xg xs) (d + 1) 387 37 [(0, .ref 58), (1, .int l1)] [.int (l1 + (1 : Int32)), .ref 93, .int (0 : Int32), .int l1, .ref 58] m1 Q
  refine y_iald rfl rfl rfl (H.1) ?_
  replace H := H.2
  refine y_st rfl rfl rfl rfl rfl (fun _ _ => rfl) ?_
  refine y_gf rfl rfl rfl rfl rfl ?_
  refine y_st rfl rfl rfl rfl rfl (fun _ _ => rfl) ?_
  show yP (xg xs) (d + 1) 387 43 [(0, .ref 58), (1, .int l1)] [.int l1, .ref 93, .int (m1.1 93 ((l1 + (1 : Int32)).toNatClampNeg)), .int (0 : Int32), .int l1, .ref 58] m1 Q
  refine y_iald rfl rfl rfl (H.1) ?_
  replace H := H.2
  refine y_st rfl rfl rfl rfl rfl (fun _ _ => rfl) ?_
  show yP (xg xs) (d + 1) 387 45 [(0, .ref 58), (1, .int l1)] [.int ((m1.1 93 ((l1 + (1 : Int32)).toNatClampNeg)) - (m1.1 93 l1.toNatClampNeg)), .int (0 : Int32), .int l1, .ref 58] m1 Q
  refine y_call rfl rfl rfl rfl rfl (Nat.le_of_ble_eq_true rfl) (Nat.le_of_ble_eq_true rfl) rfl (by decide) H (fun v2 m2 H => ?_)
  obtain ⟨rfl, H⟩ := H
  refine y_st rfl rfl rfl rfl rfl (fun _ _ => rfl) ?_
  refine y_gf rfl rfl rfl rfl rfl ?_
  refine y_st rfl rfl rfl rfl rfl (fun _ _ => rfl) ?_
  refine y_st rfl rfl rfl rfl rfl (fun _ _ => rfl) ?_
  refine y_gf rfl rfl rfl rfl rfl ?_
  refine y_st rfl rfl rfl rfl rfl (fun _ _ => rfl) ?_
  refine y_gf rfl rfl rfl rfl rfl ?_
  show yP (xg xs) (d + 1) 387 61 [(0, .ref 58), (1, .int l1)] [.long (m2.2 58 60), .long (m2.2 58 58), .int l1, .ref 94] m2 Q
  refine y_call rfl rfl rfl rfl rfl (Nat.le_of_ble_eq_true rfl) (Nat.le_of_ble_eq_true rfl) rfl (by decide) H (fun v3 m3 H => ?_)
  obtain ⟨u3, rfl, H⟩ := H
  show yP (xg xs) (d + 1) 387 64 [(0, .ref 58), (1, .int l1)] [.long u3, .int l1, .ref 94] m3 Q
  refine y_last rfl rfl rfl (H.1) ?_
  replace H := H.2
  refine y_st rfl rfl rfl rfl rfl (fun _ _ => rfl) ?_
  refine y_st rfl rfl rfl rfl rfl (fun _ _ => rfl) ?_
  refine y_st rfl rfl rfl rfl rfl (fun _ _ => rfl) ?_
  refine y_gf rfl rfl rfl rfl rfl ?_
  refine y_st rfl rfl rfl rfl rfl (fun _ _ => rfl) ?_
  show yP (xg xs) (d + 1) 387 73 [(0, .ref 58), (1, .int l1)] [.int l1, .ref 94, .int (52 : Int32), .ref 58] (y_sl m3 94 l1.toNatClampNeg u3) Q
  refine y_lald rfl rfl rfl (H.1) ?_
  replace H := H.2
  refine y_st rfl rfl rfl rfl rfl (fun _ _ => rfl) ?_
  refine y_st rfl rfl rfl rfl rfl (fun _ _ => rfl) ?_
  show yP (xg xs) (d + 1) 387 78 [(0, .ref 58), (1, .int l1)] [.int (lg_cmp ((y_sl m3 94 l1.toNatClampNeg u3).2 94 l1.toNatClampNeg) (1000000000 : Int64)), .int (52 : Int32), .ref 58] (y_sl m3 94 l1.toNatClampNeg u3) Q
  refine y_zle (t := 85) rfl rfl rfl (fun h => ?_) (fun h => ?_)
  · replace H := H.1 h; clear h
    refine y_st rfl rfl rfl rfl rfl (fun _ _ => rfl) ?_
    show yP (xg xs) (d + 1) 387 86 [(0, .ref 58), (1, .int l1)] [.int (0 : Int32), .int (52 : Int32), .ref 58] (y_sl m3 94 l1.toNatClampNeg u3) Q
    exact H
  · replace H := H.2 h; clear h
    refine y_st rfl rfl rfl rfl rfl (fun _ _ => rfl) ?_
    refine y_st rfl rfl rfl rfl rfl (fun _ _ => rfl) ?_
    show yP (xg xs) (d + 1) 387 86 [(0, .ref 58), (1, .int l1)] [.int (1 : Int32), .int (52 : Int32), .ref 58] (y_sl m3 94 l1.toNatClampNeg u3) Q
    exact H
set_option maxRecDepth 20000 in
/-- CodeMakerModel.prove from 86 on -/
theorem w387_86 (xs : List Int32) (d : Nat) (l1 : Int32) (s1 : Int32) (s2 : Int32) (m : yM) (Q : Option Value → yM → Prop) (H : (x_in l1 400 = true ∧ (yC (xg xs) d 323 [.ref 58, .int s1, .int s2, .int (m.1 70 l1.toNatClampNeg)] m (fun v1 m1 => v1 = none ∧ Q none m1)))) : yP (xg xs) (d + 1) 387 86 [(0, .ref 58), (1, .int l1)] [.int s2, .int s1, .ref 58] m Q := by
  refine y_st rfl rfl rfl rfl rfl (fun _ _ => rfl) ?_
  refine y_gf rfl rfl rfl rfl rfl ?_
  refine y_st rfl rfl rfl rfl rfl (fun _ _ => rfl) ?_
  show yP (xg xs) (d + 1) 387 91 [(0, .ref 58), (1, .int l1)] [.int l1, .ref 70, .int s2, .int s1, .ref 58] m Q
  refine y_iald rfl rfl rfl (H.1) ?_
  replace H := H.2
  show yP (xg xs) (d + 1) 387 92 [(0, .ref 58), (1, .int l1)] [.int (m.1 70 l1.toNatClampNeg), .int s2, .int s1, .ref 58] m Q
  refine y_call rfl rfl rfl rfl rfl (Nat.le_of_ble_eq_true rfl) (Nat.le_of_ble_eq_true rfl) rfl (by decide) H (fun v1 m1 H => ?_)
  obtain ⟨rfl, H⟩ := H
  show yP (xg xs) (d + 1) 387 95 [(0, .ref 58), (1, .int l1)] [] m1 Q
  exact y_ret rfl rfl rfl rfl H
set_option maxRecDepth 20000 in
/-- CodeMakerModel.height from 0 on -/
theorem w388_0 (xs : List Int32) (d : Nat) (l1 : Int32) (m : yM) (Q : Option Value → yM → Prop) (H : (yC (xg xs) d 389 [.ref 58, .int l1] m (fun v1 m1 => v1 = none ∧ (x_in l1 401 = true ∧ yP (xg xs) (d + 1) 388 17 [(0, .ref 58), (1, .int l1), (2, .int (0 : Int32)), (3, .int (0 : Int32)), (4, .int (m1.1 93 l1.toNatClampNeg))] [] m1 Q)))) : yP (xg xs) (d + 1) 388 0 [(0, .ref 58), (1, .int l1)] [] m Q := by
  refine y_st rfl rfl rfl rfl rfl (fun _ _ => rfl) ?_
  refine y_st rfl rfl rfl rfl rfl (fun _ _ => rfl) ?_
  show yP (xg xs) (d + 1) 388 2 [(0, .ref 58), (1, .int l1)] [.int l1, .ref 58] m Q
  refine y_call rfl rfl rfl rfl rfl (Nat.le_of_ble_eq_true rfl) (Nat.le_of_ble_eq_true rfl) rfl (by decide) H (fun v1 m1 H => ?_)
  obtain ⟨rfl, H⟩ := H
  refine y_st rfl rfl rfl rfl rfl (fun _ _ => rfl) ?_
  refine y_st rfl rfl rfl rfl rfl (fun _ _ => rfl) ?_
  refine y_st rfl rfl rfl rfl rfl (fun _ _ => rfl) ?_
  refine y_st rfl rfl rfl rfl rfl (fun _ _ => rfl) ?_
  refine y_st rfl rfl rfl rfl rfl (fun _ _ => rfl) ?_
  refine y_gf rfl rfl rfl rfl rfl ?_
  refine y_st rfl rfl rfl rfl rfl (fun _ _ => rfl) ?_
  show yP (xg xs) (d + 1) 388 14 [(3, .int (0 : Int32)), (2, .int (0 : Int32)), (0, .ref 58), (1, .int l1)] [.int l1, .ref 93] m1 Q
  refine y_iald rfl rfl rfl (H.1) ?_
  replace H := H.2
  refine y_st rfl rfl rfl rfl rfl (fun _ _ => rfl) ?_
  show yP (xg xs) (d + 1) 388 17 [(4, .int (m1.1 93 l1.toNatClampNeg)), (3, .int (0 : Int32)), (2, .int (0 : Int32)), (0, .ref 58), (1, .int l1)] [] m1 Q
  refine y_headS (l2 := [(0, .ref 58), (1, .int l1), (2, .int (0 : Int32)), (3, .int (0 : Int32)), (4, .int (m1.1 93 l1.toNatClampNeg))]) [3, 4, 2, 1, 0] [0, 1, 2, 3, 4] [4, 3, 2, 0, 1] rfl rfl (by decide) rfl (by decide) ?_
  exact H
set_option maxRecDepth 20000 in
/-- CodeMakerModel.height from 17 on -/
theorem w388_17 (xs : List Int32) (d : Nat) (l1 : Int32) (l2 : Int32) (l3 : Int32) (l4 : Int32) (m : yM) (Q : Option Value → yM → Prop) (H : (x_in (l1 + (1 : Int32)) 401 = true ∧ (((m.1 93 ((l1 + (1 : Int32)).toNatClampNeg)) ≤ l4 → Q (some (.int l3)) m) ∧ (¬ (m.1 93 ((l1 + (1 : Int32)).toNatClampNeg)) ≤ l4 → (x_in l4 3001 = true ∧ (((m.1 89 l4.toNatClampNeg) = (0 : Int32) → yP (xg xs) (d + 1) 388 119 [(0, .ref 58), (1, .int l1), (2, .int (l2 + (1 : Int32))), (3, .int l3), (4, .int l4)] [] m Q) ∧ ((m.1 89 l4.toNatClampNeg) = (1 : Int32) → yP (xg xs) (d + 1) 388 119 [(0, .ref 58), (1, .int l1), (2, .int (l2 + (1 : Int32))), (3, .int l3), (4, .int l4)] [] m Q) ∧ ((m.1 89 l4.toNatClampNeg) = (2 : Int32) → yP (xg xs) (d + 1) 388 119 [(0, .ref 58), (1, .int l1), (2, .int (l2 + ((-1) : Int32))), (3, .int l3), (4, .int l4)] [] m Q) ∧ ((m.1 89 l4.toNatClampNeg) = (4 : Int32) → yP (xg xs) (d + 1) 388 119 [(0, .ref 58), (1, .int l1), (2, .int (l2 - (2 : Int32))), (3, .int l3), (4, .int l4)] [] m Q) ∧ ((m.1 89 l4.toNatClampNeg) = (5 : Int32) → yP (xg xs) (d + 1) 388 119 [(0, .ref 58), (1, .int l1), (2, .int (l2 + (1 : Int32))), (3, .int l3), (4, .int l4)] [] m Q) ∧ ((m.1 89 l4.toNatClampNeg) = (6 : Int32) → yP (xg xs) (d + 1) 388 119 [(0, .ref 58), (1, .int l1), (2, .int (l2 + ((-1) : Int32))), (3, .int l3), (4, .int l4)] [] m Q) ∧ ((m.1 89 l4.toNatClampNeg) = (7 : Int32) → yP (xg xs) (d + 1) 388 119 [(0, .ref 58), (1, .int l1), (2, .int (l2 + ((-1) : Int32))), (3, .int l3), (4, .int l4)] [] m Q) ∧ ((m.1 89 l4.toNatClampNeg) = (9 : Int32) → yP (xg xs) (d + 1) 388 119 [(0, .ref 58), (1, .int l1), (2, .int (l2 - (2 : Int32))), (3, .int l3), (4, .int l4)] [] m Q) ∧ ((m.1 89 l4.toNatClampNeg) = (11 : Int32) → yP (xg xs) (d + 1) 388 119 [(0, .ref 58), (1, .int l1), (2, .int (l2 + ((-1) : Int32))), (3, .int l3), (4, .int l4)] [] m Q) ∧ (¬ (m.1 89 l4.toNatClampNeg) = (0 : Int32) → ¬ (m.1 89 l4.toNatClampNeg) = (1 : Int32) → ¬ (m.1 89 l4.toNatClampNeg) = (2 : Int32) → ¬ (m.1 89 l4.toNatClampNeg) = (4 : Int32) → ¬ (m.1 89 l4.toNatClampNeg) = (5 : Int32) → ¬ (m.1 89 l4.toNatClampNeg) = (6 : Int32) → ¬ (m.1 89 l4.toNatClampNeg) = (7 : Int32) → ¬ (m.1 89 l4.toNatClampNeg) = (9 : Int32) → ¬ (m.1 89 l4.toNatClampNeg) = (11 : Int32) → yP (xg xs) (d + 1) 388 119 [(0, .ref 58), (1, .int l1), (2, .int l2), (3, .int l3), (4, .int l4)] [] m Q))))))) : yP (xg xs) (d + 1) 388 17 [(0, .ref 58), (1, .int l1), (2, .int l2), (3, .int l3), (4, .int l4)] [] m Q := by
  refine y_st rfl rfl rfl rfl rfl (fun _ _ => rfl) ?_
  refine y_st rfl rfl rfl rfl rfl (fun _ _ => rfl) ?_
  refine y_gf rfl rfl rfl rfl rfl ?_
  refine y_st rfl rfl rfl rfl rfl (fun _ _ => rfl) ?_
  refine y_st rfl rfl rfl rfl rfl (fun _ _ => rfl) ?_
  refine y_st rfl rfl rfl rfl rfl (fun _ _ => rfl) ?_
  show yP (xg xs) (d + 1) 388 26 [(0, .ref 58), (1, .int l1), (2, .int l2), (3, .int l3), (4, .int l4)] [.int (l1 + (1 : Int32)), .ref 93, .int l4] m Q
  refine y_iald rfl rfl rfl (H.1) ?_
  replace H := H.2
  show yP (xg xs) (d + 1) 388 27 [(0, .ref 58), (1, .int l1), (2, .int l2), (3, .int l3), (4, .int l4)] [.int (m.1 93 ((l1 + (1 : Int32)).toNatClampNeg)), .int l4] m Q
  refine y_ige (t := 146) rfl rfl rfl (fun h => ?_) (fun h => ?_)
  · replace H := H.1 h; clear h
    refine y_st rfl rfl rfl rfl rfl (fun _ _ => rfl) ?_
    show yP (xg xs) (d + 1) 388 147 [(0, .ref 58), (1, .int l1), (2, .int l2), (3, .int l3), (4, .int l4)] [.int l3] m Q
    exact y_iret rfl rfl rfl H
  · replace H := H.2 h; clear h
    refine y_st rfl rfl rfl rfl rfl (fun _ _ => rfl) ?_
    refine y_gf rfl rfl rfl rfl rfl ?_
    refine y_st rfl rfl rfl rfl rfl (fun _ _ => rfl) ?_
    show yP (xg xs) (d + 1) 388 36 [(0, .ref 58), (1, .int l1), (2, .int l2), (3, .int l3), (4, .int l4)] [.int l4, .ref 89] m Q
    refine y_iald rfl rfl rfl (H.1) ?_
    replace H := H.2
    show yP (xg xs) (d + 1) 388 37 [(0, .ref 58), (1, .int l1), (2, .int l2), (3, .int l3), (4, .int l4)] [.int (m.1 89 l4.toNatClampNeg)] m Q
    by_cases h0 : m.1 89 l4.toNatClampNeg = (0 : Int32)
    · replace H := H.1 h0
      refine y_tsw (t := 100) rfl rfl (by rw [h0]; rfl) ?_
      clear h0
      refine y_st rfl rfl rfl rfl rfl (fun _ _ => rfl) ?_
      refine y_st rfl rfl rfl rfl rfl (fun _ _ => rfl) ?_
      show yP (xg xs) (d + 1) 388 119 [(2, .int (l2 + (1 : Int32))), (0, .ref 58), (1, .int l1), (3, .int l3), (4, .int l4)] [] m Q
      refine y_headS (l2 := [(0, .ref 58), (1, .int l1), (2, .int (l2 + (1 : Int32))), (3, .int l3), (4, .int l4)]) [1, 2, 0, 3, 4] [0, 1, 2, 3, 4] [2, 0, 1, 3, 4] rfl rfl (by decide) rfl (by decide) ?_
      exact H
    replace H := H.2
    by_cases h1 : m.1 89 l4.toNatClampNeg = (1 : Int32)
    · replace H := H.1 h1
      refine y_tsw (t := 100) rfl rfl (by rw [h1]; rfl) ?_
      clear h1 h0
      refine y_st rfl rfl rfl rfl rfl (fun _ _ => rfl) ?_
      refine y_st rfl rfl rfl rfl rfl (fun _ _ => rfl) ?_
      show yP (xg xs) (d + 1) 388 119 [(2, .int (l2 + (1 : Int32))), (0, .ref 58), (1, .int l1), (3, .int l3), (4, .int l4)] [] m Q
      refine y_headS (l2 := [(0, .ref 58), (1, .int l1), (2, .int (l2 + (1 : Int32))), (3, .int l3), (4, .int l4)]) [1, 2, 0, 3, 4] [0, 1, 2, 3, 4] [2, 0, 1, 3, 4] rfl rfl (by decide) rfl (by decide) ?_
      exact H
    replace H := H.2
    by_cases h2 : m.1 89 l4.toNatClampNeg = (2 : Int32)
    · replace H := H.1 h2
      refine y_tsw (t := 106) rfl rfl (by rw [h2]; rfl) ?_
      clear h2 h1 h0
      refine y_st rfl rfl rfl rfl rfl (fun _ _ => rfl) ?_
      refine y_st rfl rfl rfl rfl rfl (fun _ _ => rfl) ?_
      show yP (xg xs) (d + 1) 388 119 [(2, .int (l2 + ((-1) : Int32))), (0, .ref 58), (1, .int l1), (3, .int l3), (4, .int l4)] [] m Q
      refine y_headS (l2 := [(0, .ref 58), (1, .int l1), (2, .int (l2 + ((-1) : Int32))), (3, .int l3), (4, .int l4)]) [1, 2, 0, 3, 4] [0, 1, 2, 3, 4] [2, 0, 1, 3, 4] rfl rfl (by decide) rfl (by decide) ?_
      exact H
    replace H := H.2
    by_cases h4 : m.1 89 l4.toNatClampNeg = (4 : Int32)
    · replace H := H.1 h4
      refine y_tsw (t := 112) rfl rfl (by rw [h4]; rfl) ?_
      clear h4 h2 h1 h0
      refine y_st rfl rfl rfl rfl rfl (fun _ _ => rfl) ?_
      refine y_st rfl rfl rfl rfl rfl (fun _ _ => rfl) ?_
      refine y_st rfl rfl rfl rfl rfl (fun _ _ => rfl) ?_
      refine y_st rfl rfl rfl rfl rfl (fun _ _ => rfl) ?_
      refine y_st rfl rfl rfl rfl rfl (fun _ _ => rfl) ?_
      show yP (xg xs) (d + 1) 388 119 [(2, .int (l2 - (2 : Int32))), (0, .ref 58), (1, .int l1), (3, .int l3), (4, .int l4)] [] m Q
      refine y_headS (l2 := [(0, .ref 58), (1, .int l1), (2, .int (l2 - (2 : Int32))), (3, .int l3), (4, .int l4)]) [1, 2, 0, 3, 4] [0, 1, 2, 3, 4] [2, 0, 1, 3, 4] rfl rfl (by decide) rfl (by decide) ?_
      exact H
    replace H := H.2
    by_cases h5 : m.1 89 l4.toNatClampNeg = (5 : Int32)
    · replace H := H.1 h5
      refine y_tsw (t := 100) rfl rfl (by rw [h5]; rfl) ?_
      clear h5 h4 h2 h1 h0
      refine y_st rfl rfl rfl rfl rfl (fun _ _ => rfl) ?_
      refine y_st rfl rfl rfl rfl rfl (fun _ _ => rfl) ?_
      show yP (xg xs) (d + 1) 388 119 [(2, .int (l2 + (1 : Int32))), (0, .ref 58), (1, .int l1), (3, .int l3), (4, .int l4)] [] m Q
      refine y_headS (l2 := [(0, .ref 58), (1, .int l1), (2, .int (l2 + (1 : Int32))), (3, .int l3), (4, .int l4)]) [1, 2, 0, 3, 4] [0, 1, 2, 3, 4] [2, 0, 1, 3, 4] rfl rfl (by decide) rfl (by decide) ?_
      exact H
    replace H := H.2
    by_cases h6 : m.1 89 l4.toNatClampNeg = (6 : Int32)
    · replace H := H.1 h6
      refine y_tsw (t := 106) rfl rfl (by rw [h6]; rfl) ?_
      clear h6 h5 h4 h2 h1 h0
      refine y_st rfl rfl rfl rfl rfl (fun _ _ => rfl) ?_
      refine y_st rfl rfl rfl rfl rfl (fun _ _ => rfl) ?_
      show yP (xg xs) (d + 1) 388 119 [(2, .int (l2 + ((-1) : Int32))), (0, .ref 58), (1, .int l1), (3, .int l3), (4, .int l4)] [] m Q
      refine y_headS (l2 := [(0, .ref 58), (1, .int l1), (2, .int (l2 + ((-1) : Int32))), (3, .int l3), (4, .int l4)]) [1, 2, 0, 3, 4] [0, 1, 2, 3, 4] [2, 0, 1, 3, 4] rfl rfl (by decide) rfl (by decide) ?_
      exact H
    replace H := H.2
    by_cases h7 : m.1 89 l4.toNatClampNeg = (7 : Int32)
    · replace H := H.1 h7
      refine y_tsw (t := 106) rfl rfl (by rw [h7]; rfl) ?_
      clear h7 h6 h5 h4 h2 h1 h0
      refine y_st rfl rfl rfl rfl rfl (fun _ _ => rfl) ?_
      refine y_st rfl rfl rfl rfl rfl (fun _ _ => rfl) ?_
      show yP (xg xs) (d + 1) 388 119 [(2, .int (l2 + ((-1) : Int32))), (0, .ref 58), (1, .int l1), (3, .int l3), (4, .int l4)] [] m Q
      refine y_headS (l2 := [(0, .ref 58), (1, .int l1), (2, .int (l2 + ((-1) : Int32))), (3, .int l3), (4, .int l4)]) [1, 2, 0, 3, 4] [0, 1, 2, 3, 4] [2, 0, 1, 3, 4] rfl rfl (by decide) rfl (by decide) ?_
      exact H
    replace H := H.2
    by_cases h9 : m.1 89 l4.toNatClampNeg = (9 : Int32)
    · replace H := H.1 h9
      refine y_tsw (t := 112) rfl rfl (by rw [h9]; rfl) ?_
      clear h9 h7 h6 h5 h4 h2 h1 h0
      refine y_st rfl rfl rfl rfl rfl (fun _ _ => rfl) ?_
      refine y_st rfl rfl rfl rfl rfl (fun _ _ => rfl) ?_
      refine y_st rfl rfl rfl rfl rfl (fun _ _ => rfl) ?_
      refine y_st rfl rfl rfl rfl rfl (fun _ _ => rfl) ?_
      refine y_st rfl rfl rfl rfl rfl (fun _ _ => rfl) ?_
      show yP (xg xs) (d + 1) 388 119 [(2, .int (l2 - (2 : Int32))), (0, .ref 58), (1, .int l1), (3, .int l3), (4, .int l4)] [] m Q
      refine y_headS (l2 := [(0, .ref 58), (1, .int l1), (2, .int (l2 - (2 : Int32))), (3, .int l3), (4, .int l4)]) [1, 2, 0, 3, 4] [0, 1, 2, 3, 4] [2, 0, 1, 3, 4] rfl rfl (by decide) rfl (by decide) ?_
      exact H
    replace H := H.2
    by_cases h11 : m.1 89 l4.toNatClampNeg = (11 : Int32)
    · replace H := H.1 h11
      refine y_tsw (t := 106) rfl rfl (by rw [h11]; rfl) ?_
      clear h11 h9 h7 h6 h5 h4 h2 h1 h0
      refine y_st rfl rfl rfl rfl rfl (fun _ _ => rfl) ?_
      refine y_st rfl rfl rfl rfl rfl (fun _ _ => rfl) ?_
      show yP (xg xs) (d + 1) 388 119 [(2, .int (l2 + ((-1) : Int32))), (0, .ref 58), (1, .int l1), (3, .int l3), (4, .int l4)] [] m Q
      refine y_headS (l2 := [(0, .ref 58), (1, .int l1), (2, .int (l2 + ((-1) : Int32))), (3, .int l3), (4, .int l4)]) [1, 2, 0, 3, 4] [0, 1, 2, 3, 4] [2, 0, 1, 3, 4] rfl rfl (by decide) rfl (by decide) ?_
      exact H
    replace H := H.2
    refine y_tsw (t := 119) rfl rfl (by have g0 := ne_lit (0 : Int32) 0 rfl h0; have g1 := ne_lit (1 : Int32) 1 rfl h1; have g2 := ne_lit (2 : Int32) 2 rfl h2; have g3 := ne_lit (4 : Int32) 4 rfl h4; have g4 := ne_lit (5 : Int32) 5 rfl h5; have g5 := ne_lit (6 : Int32) 6 rfl h6; have g6 := ne_lit (7 : Int32) 7 rfl h7; have g7 := ne_lit (9 : Int32) 9 rfl h9; have g8 := ne_lit (11 : Int32) 11 rfl h11; by_cases z : ((m.1 89 l4.toNatClampNeg)).toInt < 0 ∨ 11 < ((m.1 89 l4.toNatClampNeg)).toInt; exact (if_pos z).trans rfl; rw [if_neg z]; rcases (by omega : ((m.1 89 l4.toNatClampNeg)).toInt = 3 ∨ ((m.1 89 l4.toNatClampNeg)).toInt = 8 ∨ ((m.1 89 l4.toNatClampNeg)).toInt = 10) with e | e | e <;> rw [e] <;> rfl) ?_
    replace H := H h0 h1 h2 h4 h5 h6 h7 h9 h11
    clear h11 h9 h7 h6 h5 h4 h2 h1 h0
    show yP (xg xs) (d + 1) 388 119 [(0, .ref 58), (1, .int l1), (2, .int l2), (3, .int l3), (4, .int l4)] [] m Q
    exact H
set_option maxRecDepth 20000 in
/-- CodeMakerModel.height from 119 on -/
theorem w388_119 (xs : List Int32) (d : Nat) (l1 : Int32) (l2 : Int32) (l3 : Int32) (l4 : Int32) (m : yM) (Q : Option Value → yM → Prop) (H : (x_in l4 3002 = true ∧ (((m.1 96 l4.toNatClampNeg) = 0 → yP (xg xs) (d + 1) 388 138 [(0, .ref 58), (1, .int l1), (2, .int l2), (3, .int l3), (4, .int l4)] [] m Q) ∧ (¬ (m.1 96 l4.toNatClampNeg) = 0 → ((l2 ≤ l3 → yP (xg xs) (d + 1) 388 138 [(0, .ref 58), (1, .int l1), (2, .int l2), (3, .int l3), (4, .int l4)] [] m Q) ∧ (¬ l2 ≤ l3 → yP (xg xs) (d + 1) 388 139 [(0, .ref 58), (1, .int l1), (2, .int l2), (4, .int l4)] [.int l2] m Q)))))) : yP (xg xs) (d + 1) 388 119 [(0, .ref 58), (1, .int l1), (2, .int l2), (3, .int l3), (4, .int l4)] [] m Q := by
  refine y_st rfl rfl rfl rfl rfl (fun _ _ => rfl) ?_
  refine y_gf rfl rfl rfl rfl rfl ?_
  refine y_st rfl rfl rfl rfl rfl (fun _ _ => rfl) ?_
  show yP (xg xs) (d + 1) 388 125 [(0, .ref 58), (1, .int l1), (2, .int l2), (3, .int l3), (4, .int l4)] [.int l4, .ref 96] m Q
  refine y_bald rfl rfl rfl (by decide) (H.1) ?_
  replace H := H.2
  show yP (xg xs) (d + 1) 388 126 [(0, .ref 58), (1, .int l1), (2, .int l2), (3, .int l3), (4, .int l4)] [.int (m.1 96 l4.toNatClampNeg)] m Q
  refine y_zeq (t := 138) rfl rfl rfl (fun h => ?_) (fun h => ?_)
  · replace H := H.1 h; clear h
    show yP (xg xs) (d + 1) 388 138 [(0, .ref 58), (1, .int l1), (2, .int l2), (3, .int l3), (4, .int l4)] [] m Q
    exact H
  · replace H := H.2 h; clear h
    refine y_st rfl rfl rfl rfl rfl (fun _ _ => rfl) ?_
    refine y_st rfl rfl rfl rfl rfl (fun _ _ => rfl) ?_
    show yP (xg xs) (d + 1) 388 131 [(0, .ref 58), (1, .int l1), (2, .int l2), (3, .int l3), (4, .int l4)] [.int l3, .int l2] m Q
    refine y_ile (t := 138) rfl rfl rfl (fun h => ?_) (fun h => ?_)
    · replace H := H.1 h; clear h
      show yP (xg xs) (d + 1) 388 138 [(0, .ref 58), (1, .int l1), (2, .int l2), (3, .int l3), (4, .int l4)] [] m Q
      exact H
    · replace H := H.2 h; clear h
      refine y_st rfl rfl rfl rfl rfl (fun _ _ => rfl) ?_
      refine y_st rfl rfl rfl rfl rfl (fun _ _ => rfl) ?_
      show yP (xg xs) (d + 1) 388 139 [(0, .ref 58), (1, .int l1), (2, .int l2), (3, .int l3), (4, .int l4)] [.int l2] m Q
      refine y_headS (l2 := [(0, .ref 58), (1, .int l1), (2, .int l2), (4, .int l4)]) [0, 1, 2, 4] [0, 1, 2, 4] [0, 1, 2, 3, 4] rfl rfl (by decide) rfl (by decide) ?_
      exact H
set_option maxRecDepth 20000 in
/-- CodeMakerModel.height from 138 on -/
theorem w388_138 (xs : List Int32) (d : Nat) (l1 : Int32) (l2 : Int32) (l3 : Int32) (l4 : Int32) (m : yM) (Q : Option Value → yM → Prop) (H : yP (xg xs) (d + 1) 388 139 [(0, .ref 58), (1, .int l1), (2, .int l2), (4, .int l4)] [.int l3] m Q) : yP (xg xs) (d + 1) 388 138 [(0, .ref 58), (1, .int l1), (2, .int l2), (3, .int l3), (4, .int l4)] [] m Q := by
  refine y_st rfl rfl rfl rfl rfl (fun _ _ => rfl) ?_
  show yP (xg xs) (d + 1) 388 139 [(0, .ref 58), (1, .int l1), (2, .int l2), (3, .int l3), (4, .int l4)] [.int l3] m Q
  refine y_headS (l2 := [(0, .ref 58), (1, .int l1), (2, .int l2), (4, .int l4)]) [0, 1, 2, 4] [0, 1, 2, 4] [0, 1, 2, 3, 4] rfl rfl (by decide) rfl (by decide) ?_
  exact H
set_option maxRecDepth 20000 in
/-- CodeMakerModel.height from 139 on -/
theorem w388_139 (xs : List Int32) (d : Nat) (l1 : Int32) (l2 : Int32) (l4 : Int32) (s0 : Int32) (m : yM) (Q : Option Value → yM → Prop) (H : yP (xg xs) (d + 1) 388 17 [(0, .ref 58), (1, .int l1), (2, .int l2), (3, .int s0), (4, .int (l4 + (1 : Int32)))] [] m Q) : yP (xg xs) (d + 1) 388 139 [(0, .ref 58), (1, .int l1), (2, .int l2), (4, .int l4)] [.int s0] m Q := by
  refine y_st rfl rfl rfl rfl rfl (fun _ _ => rfl) ?_
  refine y_st rfl rfl rfl rfl rfl (fun _ _ => rfl) ?_
  refine y_st rfl rfl rfl rfl rfl (fun _ _ => rfl) ?_
  show yP (xg xs) (d + 1) 388 17 [(4, .int (l4 + (1 : Int32))), (3, .int s0), (0, .ref 58), (1, .int l1), (2, .int l2)] [] m Q
  refine y_headS (l2 := [(0, .ref 58), (1, .int l1), (2, .int l2), (3, .int s0), (4, .int (l4 + (1 : Int32)))]) [2, 3, 4, 1, 0] [0, 1, 2, 3, 4] [4, 3, 0, 1, 2] rfl rfl (by decide) rfl (by decide) ?_
  exact H
set_option maxRecDepth 20000 in
/-- CodeMakerModel.mark from 0 on -/
theorem w389_0 (xs : List Int32) (d : Nat) (l1 : Int32) (m : yM) (Q : Option Value → yM → Prop) (H : (x_in l1 401 = true ∧ yP (xg xs) (d + 1) 389 9 [(0, .ref 58), (1, .int l1), (2, .int (m.1 93 l1.toNatClampNeg)), (3, .int (m.1 93 l1.toNatClampNeg))] [] m Q)) : yP (xg xs) (d + 1) 389 0 [(0, .ref 58), (1, .int l1)] [] m Q := by
  refine y_st rfl rfl rfl rfl rfl (fun _ _ => rfl) ?_
  refine y_gf rfl rfl rfl rfl rfl ?_
  refine y_st rfl rfl rfl rfl rfl (fun _ _ => rfl) ?_
  show yP (xg xs) (d + 1) 389 5 [(0, .ref 58), (1, .int l1)] [.int l1, .ref 93] m Q
  refine y_iald rfl rfl rfl (H.1) ?_
  replace H := H.2
  refine y_st rfl rfl rfl rfl rfl (fun _ _ => rfl) ?_
  refine y_st rfl rfl rfl rfl rfl (fun _ _ => rfl) ?_
  refine y_st rfl rfl rfl rfl rfl (fun _ _ => rfl) ?_
  show yP (xg xs) (d + 1) 389 9 [(3, .int (m.1 93 l1.toNatClampNeg)), (2, .int (m.1 93 l1.toNatClampNeg)), (0, .ref 58), (1, .int l1)] [] m Q
  refine y_headS (l2 := [(0, .ref 58), (1, .int l1), (2, .int (m.1 93 l1.toNatClampNeg)), (3, .int (m.1 93 l1.toNatClampNeg))]) [2, 3, 1, 0] [0, 1, 2, 3] [3, 2, 0, 1] rfl rfl (by decide) rfl (by decide) ?_
  exact H
set_option maxRecDepth 20000 in
/-- CodeMakerModel.mark from 9 on -/
theorem w389_9 (xs : List Int32) (d : Nat) (l1 : Int32) (l2 : Int32) (l3 : Int32) (m : yM) (Q : Option Value → yM → Prop) (H : (x_in (l1 + (1 : Int32)) 401 = true ∧ (((m.1 93 ((l1 + (1 : Int32)).toNatClampNeg)) < l3 → yP (xg xs) (d + 1) 389 45 [(0, .ref 58), (1, .int l1), (2, .int l2), (3, .int l2)] [] m Q) ∧ (¬ (m.1 93 ((l1 + (1 : Int32)).toNatClampNeg)) < l3 → ((¬ l3 = l2 → yP (xg xs) (d + 1) 389 36 [(0, .ref 58), (1, .int l1), (2, .int l2), (3, .int l3)] [.int (0 : Int32), .int l3, .ref 96] m Q) ∧ (l3 = l2 → yP (xg xs) (d + 1) 389 36 [(0, .ref 58), (1, .int l1), (2, .int l2), (3, .int l3)] [.int (1 : Int32), .int l3, .ref 96] m Q)))))) : yP (xg xs) (d + 1) 389 9 [(0, .ref 58), (1, .int l1), (2, .int l2), (3, .int l3)] [] m Q := by
  refine y_st rfl rfl rfl rfl rfl (fun _ _ => rfl) ?_
  refine y_st rfl rfl rfl rfl rfl (fun _ _ => rfl) ?_
  refine y_gf rfl rfl rfl rfl rfl ?_
  refine y_st rfl rfl rfl rfl rfl (fun _ _ => rfl) ?_
  refine y_st rfl rfl rfl rfl rfl (fun _ _ => rfl) ?_
  refine y_st rfl rfl rfl rfl rfl (fun _ _ => rfl) ?_
  show yP (xg xs) (d + 1) 389 17 [(0, .ref 58), (1, .int l1), (2, .int l2), (3, .int l3)] [.int (l1 + (1 : Int32)), .ref 93, .int l3] m Q
  refine y_iald rfl rfl rfl (H.1) ?_
  replace H := H.2
  show yP (xg xs) (d + 1) 389 18 [(0, .ref 58), (1, .int l1), (2, .int l2), (3, .int l3)] [.int (m.1 93 ((l1 + (1 : Int32)).toNatClampNeg)), .int l3] m Q
  refine y_igt (t := 43) rfl rfl rfl (fun h => ?_) (fun h => ?_)
  · replace H := H.1 h; clear h
    refine y_st rfl rfl rfl rfl rfl (fun _ _ => rfl) ?_
    refine y_st rfl rfl rfl rfl rfl (fun _ _ => rfl) ?_
    show yP (xg xs) (d + 1) 389 45 [(3, .int l2), (0, .ref 58), (1, .int l1), (2, .int l2)] [] m Q
    refine y_headS (l2 := [(0, .ref 58), (1, .int l1), (2, .int l2), (3, .int l2)]) [1, 2, 3, 0] [0, 1, 2, 3] [3, 0, 1, 2] rfl rfl (by decide) rfl (by decide) ?_
    exact H
  · replace H := H.2 h; clear h
    refine y_st rfl rfl rfl rfl rfl (fun _ _ => rfl) ?_
    refine y_gf rfl rfl rfl rfl rfl ?_
    refine y_st rfl rfl rfl rfl rfl (fun _ _ => rfl) ?_
    refine y_st rfl rfl rfl rfl rfl (fun _ _ => rfl) ?_
    refine y_st rfl rfl rfl rfl rfl (fun _ _ => rfl) ?_
    show yP (xg xs) (d + 1) 389 28 [(0, .ref 58), (1, .int l1), (2, .int l2), (3, .int l3)] [.int l2, .int l3, .int l3, .ref 96] m Q
    refine y_ine (t := 35) rfl rfl rfl (fun h => ?_) (fun h => ?_)
    · replace H := H.1 h; clear h
      refine y_st rfl rfl rfl rfl rfl (fun _ _ => rfl) ?_
      show yP (xg xs) (d + 1) 389 36 [(0, .ref 58), (1, .int l1), (2, .int l2), (3, .int l3)] [.int (0 : Int32), .int l3, .ref 96] m Q
      exact H
    · replace H := H.2 h; clear h
      refine y_st rfl rfl rfl rfl rfl (fun _ _ => rfl) ?_
      refine y_st rfl rfl rfl rfl rfl (fun _ _ => rfl) ?_
      show yP (xg xs) (d + 1) 389 36 [(0, .ref 58), (1, .int l1), (2, .int l2), (3, .int l3)] [.int (1 : Int32), .int l3, .ref 96] m Q
      exact H
set_option maxRecDepth 20000 in
/-- CodeMakerModel.mark from 36 on -/
theorem w389_36 (xs : List Int32) (d : Nat) (l1 : Int32) (l2 : Int32) (l3 : Int32) (s1 : Int32) (s2 : Int32) (m : yM) (Q : Option Value → yM → Prop) (H : (x_in s1 3002 = true ∧ yP (xg xs) (d + 1) 389 9 [(0, .ref 58), (1, .int l1), (2, .int l2), (3, .int (l3 + (1 : Int32)))] [] (y_si m 96 s1.toNatClampNeg (vp_nar .boolean s2)) Q)) : yP (xg xs) (d + 1) 389 36 [(0, .ref 58), (1, .int l1), (2, .int l2), (3, .int l3)] [.int s2, .int s1, .ref 96] m Q := by
  show yP (xg xs) (d + 1) 389 36 [(0, .ref 58), (1, .int l1), (2, .int l2), (3, .int l3)] [.int s2, .int s1, .ref 96] m Q
  refine y_zast rfl rfl rfl (H.1) ?_
  replace H := H.2
  refine y_st rfl rfl rfl rfl rfl (fun _ _ => rfl) ?_
  refine y_st rfl rfl rfl rfl rfl (fun _ _ => rfl) ?_
  show yP (xg xs) (d + 1) 389 9 [(3, .int (l3 + (1 : Int32))), (0, .ref 58), (1, .int l1), (2, .int l2)] [] (y_si m 96 s1.toNatClampNeg (vp_nar .boolean s2)) Q
  refine y_headS (l2 := [(0, .ref 58), (1, .int l1), (2, .int l2), (3, .int (l3 + (1 : Int32)))]) [1, 2, 3, 0] [0, 1, 2, 3] [3, 0, 1, 2] rfl rfl (by decide) rfl (by decide) ?_
  exact H
set_option maxRecDepth 20000 in
/-- CodeMakerModel.mark from 45 on -/
theorem w389_45 (xs : List Int32) (d : Nat) (l1 : Int32) (l2 : Int32) (l3 : Int32) (m : yM) (Q : Option Value → yM → Prop) (H : (x_in (l1 + (1 : Int32)) 401 = true ∧ (((m.1 93 ((l1 + (1 : Int32)).toNatClampNeg)) ≤ l3 → Q none m) ∧ (¬ (m.1 93 ((l1 + (1 : Int32)).toNatClampNeg)) ≤ l3 → (x_in l3 3002 = true ∧ (((m.1 96 l3.toNatClampNeg) = 0 → yP (xg xs) (d + 1) 389 193 [(0, .ref 58), (1, .int l1), (2, .int l2), (3, .int l3)] [] m Q) ∧ (¬ (m.1 96 l3.toNatClampNeg) = 0 → (x_in l3 3001 = true ∧ (((m.1 89 l3.toNatClampNeg) = (18 : Int32) → yP (xg xs) (d + 1) 389 193 [(0, .ref 58), (1, .int l1), (2, .int l2), (3, .int l3)] [] m Q) ∧ (¬ (m.1 89 l3.toNatClampNeg) = (18 : Int32) → (x_in l3 3001 = true ∧ (((m.1 89 l3.toNatClampNeg) = (14 : Int32) → yP (xg xs) (d + 1) 389 193 [(0, .ref 58), (1, .int l1), (2, .int l2), (3, .int l3)] [] m Q) ∧ (¬ (m.1 89 l3.toNatClampNeg) = (14 : Int32) → (x_in (l3 + (1 : Int32)) 3002 = true ∧ ((¬ (m.1 96 ((l3 + (1 : Int32)).toNatClampNeg)) = 0 → yP (xg xs) (d + 1) 389 117 [(0, .ref 58), (1, .int l1), (2, .int l2), (3, .int l3)] [.int (l3 + (1 : Int32)), .ref 96] m Q) ∧ ((m.1 96 ((l3 + (1 : Int32)).toNatClampNeg)) = 0 → (x_in l3 3001 = true ∧ (((m.1 89 l3.toNatClampNeg) = (10 : Int32) → yP (xg xs) (d + 1) 389 122 [(0, .ref 58), (1, .int l1), (2, .int l2), (3, .int l3)] [.int (0 : Int32), .int (l3 + (1 : Int32)), .ref 96] m Q) ∧ (¬ (m.1 89 l3.toNatClampNeg) = (10 : Int32) → yP (xg xs) (d + 1) 389 117 [(0, .ref 58), (1, .int l1), (2, .int l2), (3, .int l3)] [.int (l3 + (1 : Int32)), .ref 96] m Q))))))))))))))))))) : yP (xg xs) (d + 1) 389 45 [(0, .ref 58), (1, .int l1), (2, .int l2), (3, .int l3)] [] m Q := by
  refine y_st rfl rfl rfl rfl rfl (fun _ _ => rfl) ?_
  refine y_st rfl rfl rfl rfl rfl (fun _ _ => rfl) ?_
  refine y_gf rfl rfl rfl rfl rfl ?_
  refine y_st rfl rfl rfl rfl rfl (fun _ _ => rfl) ?_
  refine y_st rfl rfl rfl rfl rfl (fun _ _ => rfl) ?_
  refine y_st rfl rfl rfl rfl rfl (fun _ _ => rfl) ?_
  show yP (xg xs) (d + 1) 389 53 [(0, .ref 58), (1, .int l1), (2, .int l2), (3, .int l3)] [.int (l1 + (1 : Int32)), .ref 93, .int l3] m Q
  refine y_iald rfl rfl rfl (H.1) ?_
  replace H := H.2
  show yP (xg xs) (d + 1) 389 54 [(0, .ref 58), (1, .int l1), (2, .int l2), (3, .int l3)] [.int (m.1 93 ((l1 + (1 : Int32)).toNatClampNeg)), .int l3] m Q
  refine y_ige (t := 199) rfl rfl rfl (fun h => ?_) (fun h => ?_)
  · replace H := H.1 h; clear h
    show yP (xg xs) (d + 1) 389 199 [(0, .ref 58), (1, .int l1), (2, .int l2), (3, .int l3)] [] m Q
    exact y_ret rfl rfl rfl rfl H
  · replace H := H.2 h; clear h
    refine y_st rfl rfl rfl rfl rfl (fun _ _ => rfl) ?_
    refine y_gf rfl rfl rfl rfl rfl ?_
    refine y_st rfl rfl rfl rfl rfl (fun _ _ => rfl) ?_
    show yP (xg xs) (d + 1) 389 62 [(0, .ref 58), (1, .int l1), (2, .int l2), (3, .int l3)] [.int l3, .ref 96] m Q
    refine y_bald rfl rfl rfl (by decide) (H.1) ?_
    replace H := H.2
    show yP (xg xs) (d + 1) 389 63 [(0, .ref 58), (1, .int l1), (2, .int l2), (3, .int l3)] [.int (m.1 96 l3.toNatClampNeg)] m Q
    refine y_zeq (t := 193) rfl rfl rfl (fun h => ?_) (fun h => ?_)
    · replace H := H.1 h; clear h
      show yP (xg xs) (d + 1) 389 193 [(0, .ref 58), (1, .int l1), (2, .int l2), (3, .int l3)] [] m Q
      exact H
    · replace H := H.2 h; clear h
      refine y_st rfl rfl rfl rfl rfl (fun _ _ => rfl) ?_
      refine y_gf rfl rfl rfl rfl rfl ?_
      refine y_st rfl rfl rfl rfl rfl (fun _ _ => rfl) ?_
      show yP (xg xs) (d + 1) 389 71 [(0, .ref 58), (1, .int l1), (2, .int l2), (3, .int l3)] [.int l3, .ref 89] m Q
      refine y_iald rfl rfl rfl (H.1) ?_
      replace H := H.2
      refine y_st rfl rfl rfl rfl rfl (fun _ _ => rfl) ?_
      show yP (xg xs) (d + 1) 389 74 [(0, .ref 58), (1, .int l1), (2, .int l2), (3, .int l3)] [.int (18 : Int32), .int (m.1 89 l3.toNatClampNeg)] m Q
      refine y_ieq (t := 193) rfl rfl rfl (fun h => ?_) (fun h => ?_)
      · replace H := H.1 h; clear h
        show yP (xg xs) (d + 1) 389 193 [(0, .ref 58), (1, .int l1), (2, .int l2), (3, .int l3)] [] m Q
        exact H
      · replace H := H.2 h; clear h
        refine y_st rfl rfl rfl rfl rfl (fun _ _ => rfl) ?_
        refine y_gf rfl rfl rfl rfl rfl ?_
        refine y_st rfl rfl rfl rfl rfl (fun _ _ => rfl) ?_
        show yP (xg xs) (d + 1) 389 82 [(0, .ref 58), (1, .int l1), (2, .int l2), (3, .int l3)] [.int l3, .ref 89] m Q
        refine y_iald rfl rfl rfl (H.1) ?_
        replace H := H.2
        refine y_st rfl rfl rfl rfl rfl (fun _ _ => rfl) ?_
        show yP (xg xs) (d + 1) 389 85 [(0, .ref 58), (1, .int l1), (2, .int l2), (3, .int l3)] [.int (14 : Int32), .int (m.1 89 l3.toNatClampNeg)] m Q
        refine y_ieq (t := 193) rfl rfl rfl (fun h => ?_) (fun h => ?_)
        · replace H := H.1 h; clear h
          show yP (xg xs) (d + 1) 389 193 [(0, .ref 58), (1, .int l1), (2, .int l2), (3, .int l3)] [] m Q
          exact H
        · replace H := H.2 h; clear h
          refine y_st rfl rfl rfl rfl rfl (fun _ _ => rfl) ?_
          refine y_gf rfl rfl rfl rfl rfl ?_
          refine y_st rfl rfl rfl rfl rfl (fun _ _ => rfl) ?_
          refine y_st rfl rfl rfl rfl rfl (fun _ _ => rfl) ?_
          refine y_st rfl rfl rfl rfl rfl (fun _ _ => rfl) ?_
          refine y_st rfl rfl rfl rfl rfl (fun _ _ => rfl) ?_
          refine y_gf rfl rfl rfl rfl rfl ?_
          refine y_st rfl rfl rfl rfl rfl (fun _ _ => rfl) ?_
          refine y_st rfl rfl rfl rfl rfl (fun _ _ => rfl) ?_
          refine y_st rfl rfl rfl rfl rfl (fun _ _ => rfl) ?_
          show yP (xg xs) (d + 1) 389 102 [(0, .ref 58), (1, .int l1), (2, .int l2), (3, .int l3)] [.int (l3 + (1 : Int32)), .ref 96, .int (l3 + (1 : Int32)), .ref 96] m Q
          refine y_bald rfl rfl rfl (by decide) (H.1) ?_
          replace H := H.2
          show yP (xg xs) (d + 1) 389 103 [(0, .ref 58), (1, .int l1), (2, .int l2), (3, .int l3)] [.int (m.1 96 ((l3 + (1 : Int32)).toNatClampNeg)), .int (l3 + (1 : Int32)), .ref 96] m Q
          refine y_zne (t := 117) rfl rfl rfl (fun h => ?_) (fun h => ?_)
          · replace H := H.1 h; clear h
            show yP (xg xs) (d + 1) 389 117 [(0, .ref 58), (1, .int l1), (2, .int l2), (3, .int l3)] [.int (l3 + (1 : Int32)), .ref 96] m Q
            exact H
          · replace H := H.2 h; clear h
            refine y_st rfl rfl rfl rfl rfl (fun _ _ => rfl) ?_
            refine y_gf rfl rfl rfl rfl rfl ?_
            refine y_st rfl rfl rfl rfl rfl (fun _ _ => rfl) ?_
            show yP (xg xs) (d + 1) 389 111 [(0, .ref 58), (1, .int l1), (2, .int l2), (3, .int l3)] [.int l3, .ref 89, .int (l3 + (1 : Int32)), .ref 96] m Q
            refine y_iald rfl rfl rfl (H.1) ?_
            replace H := H.2
            refine y_st rfl rfl rfl rfl rfl (fun _ _ => rfl) ?_
            show yP (xg xs) (d + 1) 389 114 [(0, .ref 58), (1, .int l1), (2, .int l2), (3, .int l3)] [.int (10 : Int32), .int (m.1 89 l3.toNatClampNeg), .int (l3 + (1 : Int32)), .ref 96] m Q
            refine y_ieq (t := 121) rfl rfl rfl (fun h => ?_) (fun h => ?_)
            · replace H := H.1 h; clear h
              refine y_st rfl rfl rfl rfl rfl (fun _ _ => rfl) ?_
              show yP (xg xs) (d + 1) 389 122 [(0, .ref 58), (1, .int l1), (2, .int l2), (3, .int l3)] [.int (0 : Int32), .int (l3 + (1 : Int32)), .ref 96] m Q
              exact H
            · replace H := H.2 h; clear h
              show yP (xg xs) (d + 1) 389 117 [(0, .ref 58), (1, .int l1), (2, .int l2), (3, .int l3)] [.int (l3 + (1 : Int32)), .ref 96] m Q
              exact H
set_option maxRecDepth 20000 in
/-- CodeMakerModel.mark from 117 on -/
theorem w389_117 (xs : List Int32) (d : Nat) (l1 : Int32) (l2 : Int32) (l3 : Int32) (s1 : Int32) (m : yM) (Q : Option Value → yM → Prop) (H : yP (xg xs) (d + 1) 389 122 [(0, .ref 58), (1, .int l1), (2, .int l2), (3, .int l3)] [.int (1 : Int32), .int s1, .ref 96] m Q) : yP (xg xs) (d + 1) 389 117 [(0, .ref 58), (1, .int l1), (2, .int l2), (3, .int l3)] [.int s1, .ref 96] m Q := by
  refine y_st rfl rfl rfl rfl rfl (fun _ _ => rfl) ?_
  refine y_st rfl rfl rfl rfl rfl (fun _ _ => rfl) ?_
  show yP (xg xs) (d + 1) 389 122 [(0, .ref 58), (1, .int l1), (2, .int l2), (3, .int l3)] [.int (1 : Int32), .int s1, .ref 96] m Q
  exact H
set_option maxRecDepth 20000 in
/-- CodeMakerModel.mark from 122 on -/
theorem w389_122 (xs : List Int32) (d : Nat) (l1 : Int32) (l2 : Int32) (l3 : Int32) (s1 : Int32) (s2 : Int32) (m : yM) (Q : Option Value → yM → Prop) (H : (x_in s1 3002 = true ∧ (x_in l3 3001 = true ∧ (((m.1 89 l3.toNatClampNeg) = (10 : Int32) → yP (xg xs) (d + 1) 389 145 [(0, .ref 58), (1, .int l1), (2, .int l2), (3, .int l3)] [] (y_si m 96 s1.toNatClampNeg (vp_nar .boolean s2)) Q) ∧ (¬ (m.1 89 l3.toNatClampNeg) = (10 : Int32) → (x_in l3 3001 = true ∧ ((¬ (m.1 89 l3.toNatClampNeg) = (11 : Int32) → (x_in l3 3001 = true ∧ ((¬ (m.1 89 l3.toNatClampNeg) = (13 : Int32) → yP (xg xs) (d + 1) 389 175 [(0, .ref 58), (1, .int l1), (2, .int l2), (3, .int l3)] [.int ((-1) : Int32)] (y_si m 96 s1.toNatClampNeg (vp_nar .boolean s2)) Q) ∧ ((m.1 89 l3.toNatClampNeg) = (13 : Int32) → (x_in l3 3001 = true ∧ yP (xg xs) (d + 1) 389 175 [(0, .ref 58), (1, .int l1), (2, .int l2), (3, .int l3)] [.int (m.1 91 l3.toNatClampNeg)] (y_si m 96 s1.toNatClampNeg (vp_nar .boolean s2)) Q))))) ∧ ((m.1 89 l3.toNatClampNeg) = (11 : Int32) → yP (xg xs) (d + 1) 389 145 [(0, .ref 58), (1, .int l1), (2, .int l2), (3, .int l3)] [] (y_si m 96 s1.toNatClampNeg (vp_nar .boolean s2)) Q)))))))) : yP (xg xs) (d + 1) 389 122 [(0, .ref 58), (1, .int l1), (2, .int l2), (3, .int l3)] [.int s2, .int s1, .ref 96] m Q := by
  show yP (xg xs) (d + 1) 389 122 [(0, .ref 58), (1, .int l1), (2, .int l2), (3, .int l3)] [.int s2, .int s1, .ref 96] m Q
  refine y_zast rfl rfl rfl (H.1) ?_
  replace H := H.2
  refine y_st rfl rfl rfl rfl rfl (fun _ _ => rfl) ?_
  refine y_gf rfl rfl rfl rfl rfl ?_
  refine y_st rfl rfl rfl rfl rfl (fun _ _ => rfl) ?_
  show yP (xg xs) (d + 1) 389 128 [(0, .ref 58), (1, .int l1), (2, .int l2), (3, .int l3)] [.int l3, .ref 89] (y_si m 96 s1.toNatClampNeg (vp_nar .boolean s2)) Q
  refine y_iald rfl rfl rfl (H.1) ?_
  replace H := H.2
  refine y_st rfl rfl rfl rfl rfl (fun _ _ => rfl) ?_
  show yP (xg xs) (d + 1) 389 131 [(0, .ref 58), (1, .int l1), (2, .int l2), (3, .int l3)] [.int (10 : Int32), .int (m.1 89 l3.toNatClampNeg)] (y_si m 96 s1.toNatClampNeg (vp_nar .boolean s2)) Q
  refine y_ieq (t := 145) rfl rfl rfl (fun h => ?_) (fun h => ?_)
  · replace H := H.1 h; clear h
    show yP (xg xs) (d + 1) 389 145 [(0, .ref 58), (1, .int l1), (2, .int l2), (3, .int l3)] [] (y_si m 96 s1.toNatClampNeg (vp_nar .boolean s2)) Q
    exact H
  · replace H := H.2 h; clear h
    refine y_st rfl rfl rfl rfl rfl (fun _ _ => rfl) ?_
    refine y_gf rfl rfl rfl rfl rfl ?_
    refine y_st rfl rfl rfl rfl rfl (fun _ _ => rfl) ?_
    show yP (xg xs) (d + 1) 389 139 [(0, .ref 58), (1, .int l1), (2, .int l2), (3, .int l3)] [.int l3, .ref 89] (y_si m 96 s1.toNatClampNeg (vp_nar .boolean s2)) Q
    refine y_iald rfl rfl rfl (H.1) ?_
    replace H := H.2
    refine y_st rfl rfl rfl rfl rfl (fun _ _ => rfl) ?_
    show yP (xg xs) (d + 1) 389 142 [(0, .ref 58), (1, .int l1), (2, .int l2), (3, .int l3)] [.int (11 : Int32), .int (m.1 89 l3.toNatClampNeg)] (y_si m 96 s1.toNatClampNeg (vp_nar .boolean s2)) Q
    refine y_ine (t := 154) rfl rfl rfl (fun h => ?_) (fun h => ?_)
    · replace H := H.1 h; clear h
      refine y_st rfl rfl rfl rfl rfl (fun _ _ => rfl) ?_
      refine y_gf rfl rfl rfl rfl rfl ?_
      refine y_st rfl rfl rfl rfl rfl (fun _ _ => rfl) ?_
      show yP (xg xs) (d + 1) 389 159 [(0, .ref 58), (1, .int l1), (2, .int l2), (3, .int l3)] [.int l3, .ref 89] (y_si m 96 s1.toNatClampNeg (vp_nar .boolean s2)) Q
      refine y_iald rfl rfl rfl (H.1) ?_
      replace H := H.2
      refine y_st rfl rfl rfl rfl rfl (fun _ _ => rfl) ?_
      show yP (xg xs) (d + 1) 389 162 [(0, .ref 58), (1, .int l1), (2, .int l2), (3, .int l3)] [.int (13 : Int32), .int (m.1 89 l3.toNatClampNeg)] (y_si m 96 s1.toNatClampNeg (vp_nar .boolean s2)) Q
      refine y_ine (t := 174) rfl rfl rfl (fun h => ?_) (fun h => ?_)
      · replace H := H.1 h; clear h
        refine y_st rfl rfl rfl rfl rfl (fun _ _ => rfl) ?_
        show yP (xg xs) (d + 1) 389 175 [(0, .ref 58), (1, .int l1), (2, .int l2), (3, .int l3)] [.int ((-1) : Int32)] (y_si m 96 s1.toNatClampNeg (vp_nar .boolean s2)) Q
        exact H
      · replace H := H.2 h; clear h
        refine y_st rfl rfl rfl rfl rfl (fun _ _ => rfl) ?_
        refine y_gf rfl rfl rfl rfl rfl ?_
        refine y_st rfl rfl rfl rfl rfl (fun _ _ => rfl) ?_
        show yP (xg xs) (d + 1) 389 170 [(0, .ref 58), (1, .int l1), (2, .int l2), (3, .int l3)] [.int l3, .ref 91] (y_si m 96 s1.toNatClampNeg (vp_nar .boolean s2)) Q
        refine y_iald rfl rfl rfl (H.1) ?_
        replace H := H.2
        refine y_st rfl rfl rfl rfl rfl (fun _ _ => rfl) ?_
        show yP (xg xs) (d + 1) 389 175 [(0, .ref 58), (1, .int l1), (2, .int l2), (3, .int l3)] [.int (m.1 91 l3.toNatClampNeg)] (y_si m 96 s1.toNatClampNeg (vp_nar .boolean s2)) Q
        exact H
    · replace H := H.2 h; clear h
      show yP (xg xs) (d + 1) 389 145 [(0, .ref 58), (1, .int l1), (2, .int l2), (3, .int l3)] [] (y_si m 96 s1.toNatClampNeg (vp_nar .boolean s2)) Q
      exact H
set_option maxRecDepth 20000 in
/-- CodeMakerModel.mark from 145 on -/
theorem w389_145 (xs : List Int32) (d : Nat) (l1 : Int32) (l2 : Int32) (l3 : Int32) (m : yM) (Q : Option Value → yM → Prop) (H : (x_in l3 3001 = true ∧ yP (xg xs) (d + 1) 389 175 [(0, .ref 58), (1, .int l1), (2, .int l2), (3, .int l3)] [.int (m.1 90 l3.toNatClampNeg)] m Q)) : yP (xg xs) (d + 1) 389 145 [(0, .ref 58), (1, .int l1), (2, .int l2), (3, .int l3)] [] m Q := by
  refine y_st rfl rfl rfl rfl rfl (fun _ _ => rfl) ?_
  refine y_gf rfl rfl rfl rfl rfl ?_
  refine y_st rfl rfl rfl rfl rfl (fun _ _ => rfl) ?_
  show yP (xg xs) (d + 1) 389 150 [(0, .ref 58), (1, .int l1), (2, .int l2), (3, .int l3)] [.int l3, .ref 90] m Q
  refine y_iald rfl rfl rfl (H.1) ?_
  replace H := H.2
  refine y_st rfl rfl rfl rfl rfl (fun _ _ => rfl) ?_
  show yP (xg xs) (d + 1) 389 175 [(0, .ref 58), (1, .int l1), (2, .int l2), (3, .int l3)] [.int (m.1 90 l3.toNatClampNeg)] m Q
  exact H
set_option maxRecDepth 20000 in
/-- CodeMakerModel.mark from 175 on -/
theorem w389_175 (xs : List Int32) (d : Nat) (l1 : Int32) (l2 : Int32) (l3 : Int32) (s0 : Int32) (m : yM) (Q : Option Value → yM → Prop) (H : ((s0 = ((-1) : Int32) → yP (xg xs) (d + 1) 389 193 [(0, .ref 58), (1, .int l1), (2, .int l2), (3, .int l3)] [] m Q) ∧ (¬ s0 = ((-1) : Int32) → (x_in (l2 + s0) 3002 = true ∧ yP (xg xs) (d + 1) 389 193 [(0, .ref 58), (1, .int l1), (2, .int l2), (3, .int l3)] [] (y_si m 96 ((l2 + s0).toNatClampNeg) (vp_nar .boolean (1 : Int32))) Q)))) : yP (xg xs) (d + 1) 389 175 [(0, .ref 58), (1, .int l1), (2, .int l2), (3, .int l3)] [.int s0] m Q := by
  refine y_st rfl rfl rfl rfl rfl (fun _ _ => rfl) ?_
  refine y_st rfl rfl rfl rfl rfl (fun _ _ => rfl) ?_
  refine y_st rfl rfl rfl rfl rfl (fun _ _ => rfl) ?_
  show yP (xg xs) (d + 1) 389 180 [(4, .int s0), (0, .ref 58), (1, .int l1), (2, .int l2), (3, .int l3)] [.int ((-1) : Int32), .int s0] m Q
  refine y_ieq (t := 193) rfl rfl rfl (fun h => ?_) (fun h => ?_)
  · replace H := H.1 h; clear h
    show yP (xg xs) (d + 1) 389 193 [(4, .int s0), (0, .ref 58), (1, .int l1), (2, .int l2), (3, .int l3)] [] m Q
    refine y_headS (l2 := [(0, .ref 58), (1, .int l1), (2, .int l2), (3, .int l3)]) [1, 2, 3, 4] [0, 1, 2, 3] [4, 0, 1, 2, 3] rfl rfl (by decide) rfl (by decide) ?_
    exact H
  · replace H := H.2 h; clear h
    refine y_st rfl rfl rfl rfl rfl (fun _ _ => rfl) ?_
    refine y_gf rfl rfl rfl rfl rfl ?_
    refine y_st rfl rfl rfl rfl rfl (fun _ _ => rfl) ?_
    refine y_st rfl rfl rfl rfl rfl (fun _ _ => rfl) ?_
    refine y_st rfl rfl rfl rfl rfl (fun _ _ => rfl) ?_
    refine y_st rfl rfl rfl rfl rfl (fun _ _ => rfl) ?_
    show yP (xg xs) (d + 1) 389 192 [(4, .int s0), (0, .ref 58), (1, .int l1), (2, .int l2), (3, .int l3)] [.int (1 : Int32), .int (l2 + s0), .ref 96] m Q
    refine y_zast rfl rfl rfl (H.1) ?_
    replace H := H.2
    show yP (xg xs) (d + 1) 389 193 [(4, .int s0), (0, .ref 58), (1, .int l1), (2, .int l2), (3, .int l3)] [] (y_si m 96 ((l2 + s0).toNatClampNeg) (vp_nar .boolean (1 : Int32))) Q
    refine y_headS (l2 := [(0, .ref 58), (1, .int l1), (2, .int l2), (3, .int l3)]) [1, 2, 3, 4] [0, 1, 2, 3] [4, 0, 1, 2, 3] rfl rfl (by decide) rfl (by decide) ?_
    exact H
set_option maxRecDepth 20000 in
/-- CodeMakerModel.mark from 193 on -/
theorem w389_193 (xs : List Int32) (d : Nat) (l1 : Int32) (l2 : Int32) (l3 : Int32) (m : yM) (Q : Option Value → yM → Prop) (H : yP (xg xs) (d + 1) 389 45 [(0, .ref 58), (1, .int l1), (2, .int l2), (3, .int (l3 + (1 : Int32)))] [] m Q) : yP (xg xs) (d + 1) 389 193 [(0, .ref 58), (1, .int l1), (2, .int l2), (3, .int l3)] [] m Q := by
  refine y_st rfl rfl rfl rfl rfl (fun _ _ => rfl) ?_
  refine y_st rfl rfl rfl rfl rfl (fun _ _ => rfl) ?_
  show yP (xg xs) (d + 1) 389 45 [(3, .int (l3 + (1 : Int32))), (0, .ref 58), (1, .int l1), (2, .int l2)] [] m Q
  refine y_headS (l2 := [(0, .ref 58), (1, .int l1), (2, .int l2), (3, .int (l3 + (1 : Int32)))]) [1, 2, 3, 0] [0, 1, 2, 3] [3, 0, 1, 2] rfl rfl (by decide) rfl (by decide) ?_
  exact H
set_option maxRecDepth 20000 in
/-- CodeMakerModel.goThrough from 0 on -/
theorem w390_0 (xs : List Int32) (d : Nat) (l1 : Int32) (l2 : Int32) (l3 : Int32) (m : yM) (Q : Option Value → yM → Prop) (H : (x_in l1 401 = true ∧ yP (xg xs) (d + 1) 390 11 [(0, .ref 58), (1, .int l1), (2, .int l2), (3, .int l3), (4, .int (m.1 93 l1.toNatClampNeg)), (5, .int l2)] [] m Q)) : yP (xg xs) (d + 1) 390 0 [(0, .ref 58), (1, .int l1), (2, .int l2), (3, .int l3)] [] m Q := by
  refine y_st rfl rfl rfl rfl rfl (fun _ _ => rfl) ?_
  refine y_gf rfl rfl rfl rfl rfl ?_
  refine y_st rfl rfl rfl rfl rfl (fun _ _ => rfl) ?_
  show yP (xg xs) (d + 1) 390 5 [(0, .ref 58), (1, .int l1), (2, .int l2), (3, .int l3)] [.int l1, .ref 93] m Q
  refine y_iald rfl rfl rfl (H.1) ?_
  replace H := H.2
  refine y_st rfl rfl rfl rfl rfl (fun _ _ => rfl) ?_
  refine y_st rfl rfl rfl rfl rfl (fun _ _ => rfl) ?_
  refine y_st rfl rfl rfl rfl rfl (fun _ _ => rfl) ?_
  show yP (xg xs) (d + 1) 390 11 [(5, .int l2), (4, .int (m.1 93 l1.toNatClampNeg)), (0, .ref 58), (1, .int l1), (2, .int l2), (3, .int l3)] [] m Q
  refine y_headS (l2 := [(0, .ref 58), (1, .int l1), (2, .int l2), (3, .int l3), (4, .int (m.1 93 l1.toNatClampNeg)), (5, .int l2)]) [2, 3, 4, 5, 1, 0] [0, 1, 2, 3, 4, 5] [5, 4, 0, 1, 2, 3] rfl rfl (by decide) rfl (by decide) ?_
  exact H
set_option maxRecDepth 20000 in
/-- CodeMakerModel.goThrough from 11 on -/
theorem w390_11 (xs : List Int32) (d : Nat) (l1 : Int32) (l2 : Int32) (l3 : Int32) (l4 : Int32) (l5 : Int32) (m : yM) (Q : Option Value → yM → Prop) (H : ((l3 < l5 → (x_in (l4 + l2) 3002 = true ∧ yP (xg xs) (d + 1) 390 59 [(0, .ref 58), (1, .int l1), (3, .int l3), (4, .int l4), (5, .long ((-1) : Int64)), (7, .long ((-1) : Int64)), (9, .int l2)] [] (y_sl m 97 ((l4 + l2).toNatClampNeg) (0 : Int64)) Q)) ∧ (¬ l3 < l5 → (x_in (l4 + l5) 3002 = true ∧ yP (xg xs) (d + 1) 390 11 [(0, .ref 58), (1, .int l1), (2, .int l2), (3, .int l3), (4, .int l4), (5, .int (l5 + (1 : Int32)))] [] (y_sl m 97 ((l4 + l5).toNatClampNeg) ((-1) : Int64)) Q)))) : yP (xg xs) (d + 1) 390 11 [(0, .ref 58), (1, .int l1), (2, .int l2), (3, .int l3), (4, .int l4), (5, .int l5)] [] m Q := by
  refine y_st rfl rfl rfl rfl rfl (fun _ _ => rfl) ?_
  refine y_st rfl rfl rfl rfl rfl (fun _ _ => rfl) ?_
  show yP (xg xs) (d + 1) 390 14 [(0, .ref 58), (1, .int l1), (2, .int l2), (3, .int l3), (4, .int l4), (5, .int l5)] [.int l3, .int l5] m Q
  refine y_igt (t := 36) rfl rfl rfl (fun h => ?_) (fun h => ?_)
  · replace H := H.1 h; clear h
    refine y_st rfl rfl rfl rfl rfl (fun _ _ => rfl) ?_
    refine y_gf rfl rfl rfl rfl rfl ?_
    refine y_st rfl rfl rfl rfl rfl (fun _ _ => rfl) ?_
    refine y_st rfl rfl rfl rfl rfl (fun _ _ => rfl) ?_
    refine y_st rfl rfl rfl rfl rfl (fun _ _ => rfl) ?_
    refine y_st rfl rfl rfl rfl rfl (fun _ _ => rfl) ?_
    show yP (xg xs) (d + 1) 390 45 [(0, .ref 58), (1, .int l1), (2, .int l2), (3, .int l3), (4, .int l4), (5, .int l5)] [.long (0 : Int64), .int (l4 + l2), .ref 97] m Q
    refine y_last rfl rfl rfl (H.1) ?_
    replace H := H.2
    refine y_st rfl rfl rfl rfl rfl (fun _ _ => rfl) ?_
    refine y_st rfl rfl rfl rfl rfl (fun _ _ => rfl) ?_
    refine y_st rfl rfl rfl rfl rfl (fun _ _ => rfl) ?_
    refine y_st rfl rfl rfl rfl rfl (fun _ _ => rfl) ?_
    refine y_st rfl rfl rfl rfl rfl (fun _ _ => rfl) ?_
    refine y_st rfl rfl rfl rfl rfl (fun _ _ => rfl) ?_
    show yP (xg xs) (d + 1) 390 59 [(9, .int l2), (7, .long ((-1) : Int64)), (5, .long ((-1) : Int64)), (0, .ref 58), (1, .int l1), (2, .int l2), (3, .int l3), (4, .int l4)] [] (y_sl m 97 ((l4 + l2).toNatClampNeg) (0 : Int64)) Q
    refine y_headS (l2 := [(0, .ref 58), (1, .int l1), (3, .int l3), (4, .int l4), (5, .long ((-1) : Int64)), (7, .long ((-1) : Int64)), (9, .int l2)]) [3, 4, 6, 7, 2, 1, 0] [0, 1, 3, 4, 5, 7, 9] [9, 7, 5, 0, 1, 2, 3, 4] rfl rfl (by decide) rfl (by decide) ?_
    exact H
  · replace H := H.2 h; clear h
    refine y_st rfl rfl rfl rfl rfl (fun _ _ => rfl) ?_
    refine y_gf rfl rfl rfl rfl rfl ?_
    refine y_st rfl rfl rfl rfl rfl (fun _ _ => rfl) ?_
    refine y_st rfl rfl rfl rfl rfl (fun _ _ => rfl) ?_
    refine y_st rfl rfl rfl rfl rfl (fun _ _ => rfl) ?_
    refine y_st rfl rfl rfl rfl rfl (fun _ _ => rfl) ?_
    show yP (xg xs) (d + 1) 390 29 [(0, .ref 58), (1, .int l1), (2, .int l2), (3, .int l3), (4, .int l4), (5, .int l5)] [.long ((-1) : Int64), .int (l4 + l5), .ref 97] m Q
    refine y_last rfl rfl rfl (H.1) ?_
    replace H := H.2
    refine y_st rfl rfl rfl rfl rfl (fun _ _ => rfl) ?_
    refine y_st rfl rfl rfl rfl rfl (fun _ _ => rfl) ?_
    show yP (xg xs) (d + 1) 390 11 [(5, .int (l5 + (1 : Int32))), (0, .ref 58), (1, .int l1), (2, .int l2), (3, .int l3), (4, .int l4)] [] (y_sl m 97 ((l4 + l5).toNatClampNeg) ((-1) : Int64)) Q
    refine y_headS (l2 := [(0, .ref 58), (1, .int l1), (2, .int l2), (3, .int l3), (4, .int l4), (5, .int (l5 + (1 : Int32)))]) [1, 2, 3, 4, 5, 0] [0, 1, 2, 3, 4, 5] [5, 0, 1, 2, 3, 4] rfl rfl (by decide) rfl (by decide) ?_
    exact H
set_option maxRecDepth 20000 in
/-- CodeMakerModel.goThrough from 59 on -/
theorem w390_59 (xs : List Int32) (d : Nat) (l1 : Int32) (l3 : Int32) (l4 : Int32) (l5 : Int64) (l7 : Int64) (l9 : Int32) (m : yM) (Q : Option Value → yM → Prop) (H : ((l3 ≤ l9 → (x_in (l4 + l3) 3002 = true ∧ Q none (y_sl (y_sl (y_sl m 58 58 (m.2 97 ((l4 + l3).toNatClampNeg))) 58 59 l5) 58 60 l7))) ∧ (¬ l3 ≤ l9 → (x_in (l4 + l9) 3002 = true ∧ (x_in (l4 + l9) 3001 = true ∧ ((¬ (m.1 89 ((l4 + l9).toNatClampNeg)) = (13 : Int32) → (((lg_cmp (m.2 97 ((l4 + l9).toNatClampNeg)) (0 : Int64)) < 0 → yP (xg xs) (d + 1) 390 571 [(0, .ref 58), (1, .int l1), (3, .int l3), (4, .int l4), (5, .long l5), (7, .long l7), (9, .int l9), (13, .int (1 : Int32))] [] m Q) ∧ (¬ (lg_cmp (m.2 97 ((l4 + l9).toNatClampNeg)) (0 : Int64)) < 0 → (x_in (l4 + l9) 3001 = true ∧ (((m.1 89 ((l4 + l9).toNatClampNeg)) = (15 : Int32) → yP (xg xs) (d + 1) 390 390 [(0, .ref 58), (1, .int l1), (3, .int l3), (4, .int l4), (5, .long l5), (7, .long l7), (9, .int l9), (10, .int (l4 + l9)), (13, .int (1 : Int32))] [.long ((m.2 97 ((l4 + l9).toNatClampNeg)) + (1 : Int64))] m Q) ∧ (¬ (m.1 89 ((l4 + l9).toNatClampNeg)) = (15 : Int32) → (x_in (l4 + l9) 3001 = true ∧ ((¬ (m.1 89 ((l4 + l9).toNatClampNeg)) = (16 : Int32) → yP (xg xs) (d + 1) 390 406 [(0, .ref 58), (1, .int l1), (3, .int l3), (4, .int l4), (5, .long l5), (7, .long l7), (9, .int l9), (10, .int (l4 + l9)), (13, .int (1 : Int32))] [.long (0 : Int64), .long ((m.2 97 ((l4 + l9).toNatClampNeg)) + (1 : Int64))] m Q) ∧ ((m.1 89 ((l4 + l9).toNatClampNeg)) = (16 : Int32) → yP (xg xs) (d + 1) 390 390 [(0, .ref 58), (1, .int l1), (3, .int l3), (4, .int l4), (5, .long l5), (7, .long l7), (9, .int l9), (10, .int (l4 + l9)), (13, .int (1 : Int32))] [.long ((m.2 97 ((l4 + l9).toNatClampNeg)) + (1 : Int64))] m Q))))))))) ∧ ((m.1 89 ((l4 + l9).toNatClampNeg)) = (13 : Int32) → (x_in (l4 + l9) 3001 = true ∧ (x_in ((l4 + l9) - (1 : Int32)) 3001 = true ∧ (yC (xg xs) d 390 [.ref 58, .int l1, .int (l9 + (1 : Int32)), .int ((m.1 91 ((l4 + l9).toNatClampNeg)) - (1 : Int32))] m (fun v1 m1 => v1 = none ∧ (((lg_cmp (m1.2 58 58) (0 : Int64)) < 0 → yP (xg xs) (d + 1) 390 160 [(0, .ref 58), (1, .int l1), (3, .int l3), (4, .int l4), (5, .long l5), (7, .long l7), (9, .int l9), (14, .int (m.1 91 ((l4 + l9).toNatClampNeg))), (15, .long ((m.1 91 (((l4 + l9) - (1 : Int32)).toNatClampNeg)).toInt64)), (17, .long (m.2 97 ((l4 + l9).toNatClampNeg)))] [.long ((-1) : Int64)] m1 Q) ∧ (¬ (lg_cmp (m1.2 58 58) (0 : Int64)) < 0 → (yC (xg xs) d 391 [.long ((m1.2 58 58) + (2 : Int64))] m1 (fun v2 m2 => ∃ u2, v2 = some (Value.long u2) ∧ yP (xg xs) (d + 1) 390 160 [(0, .ref 58), (1, .int l1), (3, .int l3), (4, .int l4), (5, .long l5), (7, .long l7), (9, .int l9), (14, .int (m.1 91 ((l4 + l9).toNatClampNeg))), (15, .long ((m.1 91 (((l4 + l9) - (1 : Int32)).toNatClampNeg)).toInt64)), (17, .long (m.2 97 ((l4 + l9).toNatClampNeg)))] [.long u2] m2 Q))))))))))))))) : yP (xg xs) (d + 1) 390 59 [(0, .ref 58), (1, .int l1), (3, .int l3), (4, .int l4), (5, .long l5), (7, .long l7), (9, .int l9)] [] m Q := by
  refine y_st rfl rfl rfl rfl rfl (fun _ _ => rfl) ?_
  refine y_st rfl rfl rfl rfl rfl (fun _ _ => rfl) ?_
  show yP (xg xs) (d + 1) 390 62 [(0, .ref 58), (1, .int l1), (3, .int l3), (4, .int l4), (5, .long l5), (7, .long l7), (9, .int l9)] [.int l3, .int l9] m Q
  refine y_ige (t := 581) rfl rfl rfl (fun h => ?_) (fun h => ?_)
  · replace H := H.1 h; clear h
    refine y_st rfl rfl rfl rfl rfl (fun _ _ => rfl) ?_
    refine y_st rfl rfl rfl rfl rfl (fun _ _ => rfl) ?_
    refine y_gf rfl rfl rfl rfl rfl ?_
    refine y_st rfl rfl rfl rfl rfl (fun _ _ => rfl) ?_
    refine y_st rfl rfl rfl rfl rfl (fun _ _ => rfl) ?_
    refine y_st rfl rfl rfl rfl rfl (fun _ _ => rfl) ?_
    show yP (xg xs) (d + 1) 390 590 [(0, .ref 58), (1, .int l1), (3, .int l3), (4, .int l4), (5, .long l5), (7, .long l7), (9, .int l9)] [.int (l4 + l3), .ref 97, .ref 58] m Q
    refine y_lald rfl rfl rfl (H.1) ?_
    replace H := H.2
    refine y_pfl rfl rfl rfl rfl rfl (x_fit_l _) ?_
    show yP (xg xs) (d + 1) 390 594 [(0, .ref 58), (1, .int l1), (3, .int l3), (4, .int l4), (5, .long l5), (7, .long l7), (9, .int l9)] [] (y_sl m 58 58 (m.2 97 ((l4 + l3).toNatClampNeg))) Q
    refine y_st rfl rfl rfl rfl rfl (fun _ _ => rfl) ?_
    refine y_st rfl rfl rfl rfl rfl (fun _ _ => rfl) ?_
    refine y_pfl rfl rfl rfl rfl rfl (x_fit_l _) ?_
    show yP (xg xs) (d + 1) 390 600 [(0, .ref 58), (1, .int l1), (3, .int l3), (4, .int l4), (5, .long l5), (7, .long l7), (9, .int l9)] [] (y_sl (y_sl m 58 58 (m.2 97 ((l4 + l3).toNatClampNeg))) 58 59 l5) Q
    refine y_st rfl rfl rfl rfl rfl (fun _ _ => rfl) ?_
    refine y_st rfl rfl rfl rfl rfl (fun _ _ => rfl) ?_
    refine y_pfl rfl rfl rfl rfl rfl (x_fit_l _) ?_
    show yP (xg xs) (d + 1) 390 606 [(0, .ref 58), (1, .int l1), (3, .int l3), (4, .int l4), (5, .long l5), (7, .long l7), (9, .int l9)] [] (y_sl (y_sl (y_sl m 58 58 (m.2 97 ((l4 + l3).toNatClampNeg))) 58 59 l5) 58 60 l7) Q
    show yP (xg xs) (d + 1) 390 606 [(0, .ref 58), (1, .int l1), (3, .int l3), (4, .int l4), (5, .long l5), (7, .long l7), (9, .int l9)] [] (y_sl (y_sl (y_sl m 58 58 (m.2 97 ((l4 + l3).toNatClampNeg))) 58 59 l5) 58 60 l7) Q
    exact y_ret rfl rfl rfl rfl H
  · replace H := H.2 h; clear h
    refine y_st rfl rfl rfl rfl rfl (fun _ _ => rfl) ?_
    refine y_st rfl rfl rfl rfl rfl (fun _ _ => rfl) ?_
    refine y_st rfl rfl rfl rfl rfl (fun _ _ => rfl) ?_
    refine y_st rfl rfl rfl rfl rfl (fun _ _ => rfl) ?_
    refine y_st rfl rfl rfl rfl rfl (fun _ _ => rfl) ?_
    refine y_gf rfl rfl rfl rfl rfl ?_
    refine y_st rfl rfl rfl rfl rfl (fun _ _ => rfl) ?_
    show yP (xg xs) (d + 1) 390 78 [(10, .int (l4 + l9)), (0, .ref 58), (1, .int l1), (3, .int l3), (4, .int l4), (5, .long l5), (7, .long l7), (9, .int l9)] [.int (l4 + l9), .ref 97] m Q
    refine y_lald rfl rfl rfl (H.1) ?_
    replace H := H.2
    refine y_st rfl rfl rfl rfl rfl (fun _ _ => rfl) ?_
    refine y_st rfl rfl rfl rfl rfl (fun _ _ => rfl) ?_
    refine y_st rfl rfl rfl rfl rfl (fun _ _ => rfl) ?_
    refine y_st rfl rfl rfl rfl rfl (fun _ _ => rfl) ?_
    refine y_gf rfl rfl rfl rfl rfl ?_
    refine y_st rfl rfl rfl rfl rfl (fun _ _ => rfl) ?_
    show yP (xg xs) (d + 1) 390 90 [(13, .int (1 : Int32)), (11, .long (m.2 97 ((l4 + l9).toNatClampNeg))), (10, .int (l4 + l9)), (0, .ref 58), (1, .int l1), (3, .int l3), (4, .int l4), (5, .long l5), (7, .long l7), (9, .int l9)] [.int (l4 + l9), .ref 89] m Q
    refine y_iald rfl rfl rfl (H.1) ?_
    replace H := H.2
    refine y_st rfl rfl rfl rfl rfl (fun _ _ => rfl) ?_
    show yP (xg xs) (d + 1) 390 93 [(13, .int (1 : Int32)), (11, .long (m.2 97 ((l4 + l9).toNatClampNeg))), (10, .int (l4 + l9)), (0, .ref 58), (1, .int l1), (3, .int l3), (4, .int l4), (5, .long l5), (7, .long l7), (9, .int l9)] [.int (13 : Int32), .int (m.1 89 ((l4 + l9).toNatClampNeg))] m Q
    refine y_ine (t := 355) rfl rfl rfl (fun h => ?_) (fun h => ?_)
    · replace H := H.1 h; clear h
      refine y_st rfl rfl rfl rfl rfl (fun _ _ => rfl) ?_
      refine y_st rfl rfl rfl rfl rfl (fun _ _ => rfl) ?_
      refine y_st rfl rfl rfl rfl rfl (fun _ _ => rfl) ?_
      show yP (xg xs) (d + 1) 390 359 [(13, .int (1 : Int32)), (11, .long (m.2 97 ((l4 + l9).toNatClampNeg))), (10, .int (l4 + l9)), (0, .ref 58), (1, .int l1), (3, .int l3), (4, .int l4), (5, .long l5), (7, .long l7), (9, .int l9)] [.int (lg_cmp (m.2 97 ((l4 + l9).toNatClampNeg)) (0 : Int64))] m Q
      refine y_zlt (t := 571) rfl rfl rfl (fun h => ?_) (fun h => ?_)
      · replace H := H.1 h; clear h
        show yP (xg xs) (d + 1) 390 571 [(13, .int (1 : Int32)), (11, .long (m.2 97 ((l4 + l9).toNatClampNeg))), (10, .int (l4 + l9)), (0, .ref 58), (1, .int l1), (3, .int l3), (4, .int l4), (5, .long l5), (7, .long l7), (9, .int l9)] [] m Q
        refine y_headS (l2 := [(0, .ref 58), (1, .int l1), (3, .int l3), (4, .int l4), (5, .long l5), (7, .long l7), (9, .int l9), (13, .int (1 : Int32))]) [3, 4, 5, 6, 7, 8, 9, 0] [0, 1, 3, 4, 5, 7, 9, 13] [13, 11, 10, 0, 1, 3, 4, 5, 7, 9] rfl rfl (by decide) rfl (by decide) ?_
        exact H
      · replace H := H.2 h; clear h
        refine y_st rfl rfl rfl rfl rfl (fun _ _ => rfl) ?_
        refine y_st rfl rfl rfl rfl rfl (fun _ _ => rfl) ?_
        refine y_st rfl rfl rfl rfl rfl (fun _ _ => rfl) ?_
        refine y_st rfl rfl rfl rfl rfl (fun _ _ => rfl) ?_
        refine y_gf rfl rfl rfl rfl rfl ?_
        refine y_st rfl rfl rfl rfl rfl (fun _ _ => rfl) ?_
        show yP (xg xs) (d + 1) 390 372 [(13, .int (1 : Int32)), (11, .long (m.2 97 ((l4 + l9).toNatClampNeg))), (10, .int (l4 + l9)), (0, .ref 58), (1, .int l1), (3, .int l3), (4, .int l4), (5, .long l5), (7, .long l7), (9, .int l9)] [.int (l4 + l9), .ref 89, .long ((m.2 97 ((l4 + l9).toNatClampNeg)) + (1 : Int64))] m Q
        refine y_iald rfl rfl rfl (H.1) ?_
        replace H := H.2
        refine y_st rfl rfl rfl rfl rfl (fun _ _ => rfl) ?_
        show yP (xg xs) (d + 1) 390 375 [(13, .int (1 : Int32)), (11, .long (m.2 97 ((l4 + l9).toNatClampNeg))), (10, .int (l4 + l9)), (0, .ref 58), (1, .int l1), (3, .int l3), (4, .int l4), (5, .long l5), (7, .long l7), (9, .int l9)] [.int (15 : Int32), .int (m.1 89 ((l4 + l9).toNatClampNeg)), .long ((m.2 97 ((l4 + l9).toNatClampNeg)) + (1 : Int64))] m Q
        refine y_ieq (t := 390) rfl rfl rfl (fun h => ?_) (fun h => ?_)
        · replace H := H.1 h; clear h
          show yP (xg xs) (d + 1) 390 390 [(13, .int (1 : Int32)), (11, .long (m.2 97 ((l4 + l9).toNatClampNeg))), (10, .int (l4 + l9)), (0, .ref 58), (1, .int l1), (3, .int l3), (4, .int l4), (5, .long l5), (7, .long l7), (9, .int l9)] [.long ((m.2 97 ((l4 + l9).toNatClampNeg)) + (1 : Int64))] m Q
          refine y_headS (l2 := [(0, .ref 58), (1, .int l1), (3, .int l3), (4, .int l4), (5, .long l5), (7, .long l7), (9, .int l9), (10, .int (l4 + l9)), (13, .int (1 : Int32))]) [3, 4, 5, 6, 7, 8, 9, 2, 0] [0, 1, 3, 4, 5, 7, 9, 10, 13] [13, 11, 10, 0, 1, 3, 4, 5, 7, 9] rfl rfl (by decide) rfl (by decide) ?_
          exact H
        · replace H := H.2 h; clear h
          refine y_st rfl rfl rfl rfl rfl (fun _ _ => rfl) ?_
          refine y_gf rfl rfl rfl rfl rfl ?_
          refine y_st rfl rfl rfl rfl rfl (fun _ _ => rfl) ?_
          show yP (xg xs) (d + 1) 390 384 [(13, .int (1 : Int32)), (11, .long (m.2 97 ((l4 + l9).toNatClampNeg))), (10, .int (l4 + l9)), (0, .ref 58), (1, .int l1), (3, .int l3), (4, .int l4), (5, .long l5), (7, .long l7), (9, .int l9)] [.int (l4 + l9), .ref 89, .long ((m.2 97 ((l4 + l9).toNatClampNeg)) + (1 : Int64))] m Q
          refine y_iald rfl rfl rfl (H.1) ?_
          replace H := H.2
          refine y_st rfl rfl rfl rfl rfl (fun _ _ => rfl) ?_
          show yP (xg xs) (d + 1) 390 387 [(13, .int (1 : Int32)), (11, .long (m.2 97 ((l4 + l9).toNatClampNeg))), (10, .int (l4 + l9)), (0, .ref 58), (1, .int l1), (3, .int l3), (4, .int l4), (5, .long l5), (7, .long l7), (9, .int l9)] [.int (16 : Int32), .int (m.1 89 ((l4 + l9).toNatClampNeg)), .long ((m.2 97 ((l4 + l9).toNatClampNeg)) + (1 : Int64))] m Q
          refine y_ine (t := 405) rfl rfl rfl (fun h => ?_) (fun h => ?_)
          · replace H := H.1 h; clear h
            refine y_st rfl rfl rfl rfl rfl (fun _ _ => rfl) ?_
            show yP (xg xs) (d + 1) 390 406 [(13, .int (1 : Int32)), (11, .long (m.2 97 ((l4 + l9).toNatClampNeg))), (10, .int (l4 + l9)), (0, .ref 58), (1, .int l1), (3, .int l3), (4, .int l4), (5, .long l5), (7, .long l7), (9, .int l9)] [.long (0 : Int64), .long ((m.2 97 ((l4 + l9).toNatClampNeg)) + (1 : Int64))] m Q
            refine y_headS (l2 := [(0, .ref 58), (1, .int l1), (3, .int l3), (4, .int l4), (5, .long l5), (7, .long l7), (9, .int l9), (10, .int (l4 + l9)), (13, .int (1 : Int32))]) [3, 4, 5, 6, 7, 8, 9, 2, 0] [0, 1, 3, 4, 5, 7, 9, 10, 13] [13, 11, 10, 0, 1, 3, 4, 5, 7, 9] rfl rfl (by decide) rfl (by decide) ?_
            exact H
          · replace H := H.2 h; clear h
            show yP (xg xs) (d + 1) 390 390 [(13, .int (1 : Int32)), (11, .long (m.2 97 ((l4 + l9).toNatClampNeg))), (10, .int (l4 + l9)), (0, .ref 58), (1, .int l1), (3, .int l3), (4, .int l4), (5, .long l5), (7, .long l7), (9, .int l9)] [.long ((m.2 97 ((l4 + l9).toNatClampNeg)) + (1 : Int64))] m Q
            refine y_headS (l2 := [(0, .ref 58), (1, .int l1), (3, .int l3), (4, .int l4), (5, .long l5), (7, .long l7), (9, .int l9), (10, .int (l4 + l9)), (13, .int (1 : Int32))]) [3, 4, 5, 6, 7, 8, 9, 2, 0] [0, 1, 3, 4, 5, 7, 9, 10, 13] [13, 11, 10, 0, 1, 3, 4, 5, 7, 9] rfl rfl (by decide) rfl (by decide) ?_
            exact H
    · replace H := H.2 h; clear h
      refine y_st rfl rfl rfl rfl rfl (fun _ _ => rfl) ?_
      refine y_gf rfl rfl rfl rfl rfl ?_
      refine y_st rfl rfl rfl rfl rfl (fun _ _ => rfl) ?_
      show yP (xg xs) (d + 1) 390 102 [(13, .int (1 : Int32)), (11, .long (m.2 97 ((l4 + l9).toNatClampNeg))), (10, .int (l4 + l9)), (0, .ref 58), (1, .int l1), (3, .int l3), (4, .int l4), (5, .long l5), (7, .long l7), (9, .int l9)] [.int (l4 + l9), .ref 91] m Q
      refine y_iald rfl rfl rfl (H.1) ?_
      replace H := H.2
      refine y_st rfl rfl rfl rfl rfl (fun _ _ => rfl) ?_
      refine y_st rfl rfl rfl rfl rfl (fun _ _ => rfl) ?_
      refine y_gf rfl rfl rfl rfl rfl ?_
      refine y_st rfl rfl rfl rfl rfl (fun _ _ => rfl) ?_
      refine y_st rfl rfl rfl rfl rfl (fun _ _ => rfl) ?_
      refine y_st rfl rfl rfl rfl rfl (fun _ _ => rfl) ?_
      show yP (xg xs) (d + 1) 390 113 [(14, .int (m.1 91 ((l4 + l9).toNatClampNeg))), (13, .int (1 : Int32)), (11, .long (m.2 97 ((l4 + l9).toNatClampNeg))), (10, .int (l4 + l9)), (0, .ref 58), (1, .int l1), (3, .int l3), (4, .int l4), (5, .long l5), (7, .long l7), (9, .int l9)] [.int ((l4 + l9) - (1 : Int32)), .ref 91] m Q
      refine y_iald rfl rfl rfl (H.1) ?_
      replace H := H.2
      refine y_st rfl rfl rfl rfl rfl (fun _ _ => rfl) ?_
      refine y_st rfl rfl rfl rfl rfl (fun _ _ => rfl) ?_
      refine y_st rfl rfl rfl rfl rfl (fun _ _ => rfl) ?_
      refine y_st rfl rfl rfl rfl rfl (fun _ _ => rfl) ?_
      refine y_st rfl rfl rfl rfl rfl (fun _ _ => rfl) ?_
      refine y_st rfl rfl rfl rfl rfl (fun _ _ => rfl) ?_
      refine y_st rfl rfl rfl rfl rfl (fun _ _ => rfl) ?_
      refine y_st rfl rfl rfl rfl rfl (fun _ _ => rfl) ?_
      refine y_st rfl rfl rfl rfl rfl (fun _ _ => rfl) ?_
      refine y_st rfl rfl rfl rfl rfl (fun _ _ => rfl) ?_
      refine y_st rfl rfl rfl rfl rfl (fun _ _ => rfl) ?_
      refine y_st rfl rfl rfl rfl rfl (fun _ _ => rfl) ?_
      show yP (xg xs) (d + 1) 390 131 [(17, .long (m.2 97 ((l4 + l9).toNatClampNeg))), (15, .long ((m.1 91 (((l4 + l9) - (1 : Int32)).toNatClampNeg)).toInt64)), (14, .int (m.1 91 ((l4 + l9).toNatClampNeg))), (13, .int (1 : Int32)), (11, .long (m.2 97 ((l4 + l9).toNatClampNeg))), (10, .int (l4 + l9)), (0, .ref 58), (1, .int l1), (3, .int l3), (4, .int l4), (5, .long l5), (7, .long l7), (9, .int l9)] [.int ((m.1 91 ((l4 + l9).toNatClampNeg)) - (1 : Int32)), .int (l9 + (1 : Int32)), .int l1, .ref 58] m Q
      refine y_call rfl rfl rfl rfl rfl (Nat.le_of_ble_eq_true rfl) (Nat.le_of_ble_eq_true rfl) rfl (by decide) H (fun v1 m1 H => ?_)
      obtain ⟨rfl, H⟩ := H
      refine y_st rfl rfl rfl rfl rfl (fun _ _ => rfl) ?_
      refine y_gf rfl rfl rfl rfl rfl ?_
      refine y_st rfl rfl rfl rfl rfl (fun _ _ => rfl) ?_
      refine y_st rfl rfl rfl rfl rfl (fun _ _ => rfl) ?_
      show yP (xg xs) (d + 1) 390 140 [(17, .long (m.2 97 ((l4 + l9).toNatClampNeg))), (15, .long ((m.1 91 (((l4 + l9) - (1 : Int32)).toNatClampNeg)).toInt64)), (14, .int (m.1 91 ((l4 + l9).toNatClampNeg))), (13, .int (1 : Int32)), (11, .long (m.2 97 ((l4 + l9).toNatClampNeg))), (10, .int (l4 + l9)), (0, .ref 58), (1, .int l1), (3, .int l3), (4, .int l4), (5, .long l5), (7, .long l7), (9, .int l9)] [.int (lg_cmp (m1.2 58 58) (0 : Int64))] m1 Q
      refine y_zlt (t := 157) rfl rfl rfl (fun h => ?_) (fun h => ?_)
      · replace H := H.1 h; clear h
        refine y_st rfl rfl rfl rfl rfl (fun _ _ => rfl) ?_
        show yP (xg xs) (d + 1) 390 160 [(17, .long (m.2 97 ((l4 + l9).toNatClampNeg))), (15, .long ((m.1 91 (((l4 + l9) - (1 : Int32)).toNatClampNeg)).toInt64)), (14, .int (m.1 91 ((l4 + l9).toNatClampNeg))), (13, .int (1 : Int32)), (11, .long (m.2 97 ((l4 + l9).toNatClampNeg))), (10, .int (l4 + l9)), (0, .ref 58), (1, .int l1), (3, .int l3), (4, .int l4), (5, .long l5), (7, .long l7), (9, .int l9)] [.long ((-1) : Int64)] m1 Q
        refine y_headS (l2 := [(0, .ref 58), (1, .int l1), (3, .int l3), (4, .int l4), (5, .long l5), (7, .long l7), (9, .int l9), (14, .int (m.1 91 ((l4 + l9).toNatClampNeg))), (15, .long ((m.1 91 (((l4 + l9) - (1 : Int32)).toNatClampNeg)).toInt64)), (17, .long (m.2 97 ((l4 + l9).toNatClampNeg)))]) [6, 7, 8, 9, 10, 11, 12, 2, 1, 0] [0, 1, 3, 4, 5, 7, 9, 14, 15, 17] [17, 15, 14, 13, 11, 10, 0, 1, 3, 4, 5, 7, 9] rfl rfl (by decide) rfl (by decide) ?_
        exact H
      · replace H := H.2 h; clear h
        refine y_st rfl rfl rfl rfl rfl (fun _ _ => rfl) ?_
        refine y_gf rfl rfl rfl rfl rfl ?_
        refine y_st rfl rfl rfl rfl rfl (fun _ _ => rfl) ?_
        refine y_st rfl rfl rfl rfl rfl (fun _ _ => rfl) ?_
        show yP (xg xs) (d + 1) 390 151 [(17, .long (m.2 97 ((l4 + l9).toNatClampNeg))), (15, .long ((m.1 91 (((l4 + l9) - (1 : Int32)).toNatClampNeg)).toInt64)), (14, .int (m.1 91 ((l4 + l9).toNatClampNeg))), (13, .int (1 : Int32)), (11, .long (m.2 97 ((l4 + l9).toNatClampNeg))), (10, .int (l4 + l9)), (0, .ref 58), (1, .int l1), (3, .int l3), (4, .int l4), (5, .long l5), (7, .long l7), (9, .int l9)] [.long ((m1.2 58 58) + (2 : Int64))] m1 Q
        refine y_call rfl rfl rfl rfl rfl (Nat.le_of_ble_eq_true rfl) (Nat.le_of_ble_eq_true rfl) rfl (by decide) H (fun v2 m2 H => ?_)
        obtain ⟨u2, rfl, H⟩ := H
        refine y_st rfl rfl rfl rfl rfl (fun _ _ => rfl) ?_
        show yP (xg xs) (d + 1) 390 160 [(17, .long (m.2 97 ((l4 + l9).toNatClampNeg))), (15, .long ((m.1 91 (((l4 + l9) - (1 : Int32)).toNatClampNeg)).toInt64)), (14, .int (m.1 91 ((l4 + l9).toNatClampNeg))), (13, .int (1 : Int32)), (11, .long (m.2 97 ((l4 + l9).toNatClampNeg))), (10, .int (l4 + l9)), (0, .ref 58), (1, .int l1), (3, .int l3), (4, .int l4), (5, .long l5), (7, .long l7), (9, .int l9)] [.long u2] m2 Q
        refine y_headS (l2 := [(0, .ref 58), (1, .int l1), (3, .int l3), (4, .int l4), (5, .long l5), (7, .long l7), (9, .int l9), (14, .int (m.1 91 ((l4 + l9).toNatClampNeg))), (15, .long ((m.1 91 (((l4 + l9) - (1 : Int32)).toNatClampNeg)).toInt64)), (17, .long (m.2 97 ((l4 + l9).toNatClampNeg)))]) [6, 7, 8, 9, 10, 11, 12, 2, 1, 0] [0, 1, 3, 4, 5, 7, 9, 14, 15, 17] [17, 15, 14, 13, 11, 10, 0, 1, 3, 4, 5, 7, 9] rfl rfl (by decide) rfl (by decide) ?_
        exact H
set_option maxRecDepth 20000 in
/-- CodeMakerModel.goThrough from 160 on -/
theorem w390_160 (xs : List Int32) (d : Nat) (l1 : Int32) (l3 : Int32) (l4 : Int32) (l5 : Int64) (l7 : Int64) (l9 : Int32) (l14 : Int32) (l15 : Int64) (l17 : Int64) (s0 : Int64) (m : yM) (Q : Option Value → yM → Prop) (H : (((lg_cmp s0 (0 : Int64)) < 0 → yP (xg xs) (d + 1) 390 183 [(0, .ref 58), (1, .int l1), (3, .int l3), (4, .int l4), (5, .long l5), (7, .long l7), (9, .int l9), (14, .int l14), (15, .long l15), (17, .long l17), (19, .long s0)] [.long (0 : Int64)] m Q) ∧ (¬ (lg_cmp s0 (0 : Int64)) < 0 → (yC (xg xs) d 391 [.long ((l15 - (1 : Int64)) * s0)] m (fun v1 m1 => ∃ u1, v1 = some (Value.long u1) ∧ yP (xg xs) (d + 1) 390 183 [(0, .ref 58), (1, .int l1), (3, .int l3), (4, .int l4), (5, .long l5), (7, .long l7), (9, .int l9), (14, .int l14), (15, .long l15), (17, .long l17), (19, .long s0)] [.long u1] m1 Q))))) : yP (xg xs) (d + 1) 390 160 [(0, .ref 58), (1, .int l1), (3, .int l3), (4, .int l4), (5, .long l5), (7, .long l7), (9, .int l9), (14, .int l14), (15, .long l15), (17, .long l17)] [.long s0] m Q := by
  refine y_st rfl rfl rfl rfl rfl (fun _ _ => rfl) ?_
  refine y_st rfl rfl rfl rfl rfl (fun _ _ => rfl) ?_
  refine y_st rfl rfl rfl rfl rfl (fun _ _ => rfl) ?_
  refine y_st rfl rfl rfl rfl rfl (fun _ _ => rfl) ?_
  show yP (xg xs) (d + 1) 390 166 [(19, .long s0), (0, .ref 58), (1, .int l1), (3, .int l3), (4, .int l4), (5, .long l5), (7, .long l7), (9, .int l9), (14, .int l14), (15, .long l15), (17, .long l17)] [.int (lg_cmp s0 (0 : Int64))] m Q
  refine y_zlt (t := 182) rfl rfl rfl (fun h => ?_) (fun h => ?_)
  · replace H := H.1 h; clear h
    refine y_st rfl rfl rfl rfl rfl (fun _ _ => rfl) ?_
    show yP (xg xs) (d + 1) 390 183 [(19, .long s0), (0, .ref 58), (1, .int l1), (3, .int l3), (4, .int l4), (5, .long l5), (7, .long l7), (9, .int l9), (14, .int l14), (15, .long l15), (17, .long l17)] [.long (0 : Int64)] m Q
    refine y_headS (l2 := [(0, .ref 58), (1, .int l1), (3, .int l3), (4, .int l4), (5, .long l5), (7, .long l7), (9, .int l9), (14, .int l14), (15, .long l15), (17, .long l17), (19, .long s0)]) [1, 2, 3, 4, 5, 6, 7, 8, 9, 10, 0] [0, 1, 3, 4, 5, 7, 9, 14, 15, 17, 19] [19, 0, 1, 3, 4, 5, 7, 9, 14, 15, 17] rfl rfl (by decide) rfl (by decide) ?_
    exact H
  · replace H := H.2 h; clear h
    refine y_st rfl rfl rfl rfl rfl (fun _ _ => rfl) ?_
    refine y_st rfl rfl rfl rfl rfl (fun _ _ => rfl) ?_
    refine y_st rfl rfl rfl rfl rfl (fun _ _ => rfl) ?_
    refine y_st rfl rfl rfl rfl rfl (fun _ _ => rfl) ?_
    refine y_st rfl rfl rfl rfl rfl (fun _ _ => rfl) ?_
    show yP (xg xs) (d + 1) 390 176 [(19, .long s0), (0, .ref 58), (1, .int l1), (3, .int l3), (4, .int l4), (5, .long l5), (7, .long l7), (9, .int l9), (14, .int l14), (15, .long l15), (17, .long l17)] [.long ((l15 - (1 : Int64)) * s0)] m Q
    refine y_call rfl rfl rfl rfl rfl (Nat.le_of_ble_eq_true rfl) (Nat.le_of_ble_eq_true rfl) rfl (by decide) H (fun v1 m1 H => ?_)
    obtain ⟨u1, rfl, H⟩ := H
    refine y_st rfl rfl rfl rfl rfl (fun _ _ => rfl) ?_
    show yP (xg xs) (d + 1) 390 183 [(19, .long s0), (0, .ref 58), (1, .int l1), (3, .int l3), (4, .int l4), (5, .long l5), (7, .long l7), (9, .int l9), (14, .int l14), (15, .long l15), (17, .long l17)] [.long u1] m1 Q
    refine y_headS (l2 := [(0, .ref 58), (1, .int l1), (3, .int l3), (4, .int l4), (5, .long l5), (7, .long l7), (9, .int l9), (14, .int l14), (15, .long l15), (17, .long l17), (19, .long s0)]) [1, 2, 3, 4, 5, 6, 7, 8, 9, 10, 0] [0, 1, 3, 4, 5, 7, 9, 14, 15, 17, 19] [19, 0, 1, 3, 4, 5, 7, 9, 14, 15, 17] rfl rfl (by decide) rfl (by decide) ?_
    exact H
set_option maxRecDepth 20000 in
/-- CodeMakerModel.goThrough from 183 on -/
theorem w390_183 (xs : List Int32) (d : Nat) (l1 : Int32) (l3 : Int32) (l4 : Int32) (l5 : Int64) (l7 : Int64) (l9 : Int32) (l14 : Int32) (l15 : Int64) (l17 : Int64) (l19 : Int64) (s0 : Int64) (m : yM) (Q : Option Value → yM → Prop) (H : (((lg_cmp l17 (0 : Int64)) < 0 → yP (xg xs) (d + 1) 390 345 [(0, .ref 58), (1, .int l1), (3, .int l3), (4, .int l4), (5, .long l5), (7, .long l7), (9, .int l9), (14, .int l14)] [] m Q) ∧ (¬ (lg_cmp l17 (0 : Int64)) < 0 → ((¬ (lg_cmp l15 (0 : Int64)) = 0 → (((lg_cmp l19 (0 : Int64)) < 0 → yP (xg xs) (d + 1) 390 232 [(0, .ref 58), (1, .int l1), (3, .int l3), (4, .int l4), (5, .long l5), (7, .long l7), (9, .int l9), (14, .int l14), (15, .long l15), (17, .long l17), (21, .long s0)] [.long ((-1) : Int64)] m Q) ∧ (¬ (lg_cmp l19 (0 : Int64)) < 0 → (yC (xg xs) d 391 [.long ((l17 + (l15 * l19)) + (1 : Int64))] m (fun v1 m1 => ∃ u1, v1 = some (Value.long u1) ∧ yP (xg xs) (d + 1) 390 232 [(0, .ref 58), (1, .int l1), (3, .int l3), (4, .int l4), (5, .long l5), (7, .long l7), (9, .int l9), (14, .int l14), (15, .long l15), (17, .long l17), (21, .long s0)] [.long u1] m1 Q))))) ∧ ((lg_cmp l15 (0 : Int64)) = 0 → yP (xg xs) (d + 1) 390 232 [(0, .ref 58), (1, .int l1), (3, .int l3), (4, .int l4), (5, .long l5), (7, .long l7), (9, .int l9), (14, .int l14), (15, .long l15), (17, .long l17), (21, .long s0)] [.long (l17 + (1 : Int64))] m Q))))) : yP (xg xs) (d + 1) 390 183 [(0, .ref 58), (1, .int l1), (3, .int l3), (4, .int l4), (5, .long l5), (7, .long l7), (9, .int l9), (14, .int l14), (15, .long l15), (17, .long l17), (19, .long l19)] [.long s0] m Q := by
  refine y_st rfl rfl rfl rfl rfl (fun _ _ => rfl) ?_
  refine y_st rfl rfl rfl rfl rfl (fun _ _ => rfl) ?_
  refine y_st rfl rfl rfl rfl rfl (fun _ _ => rfl) ?_
  refine y_st rfl rfl rfl rfl rfl (fun _ _ => rfl) ?_
  show yP (xg xs) (d + 1) 390 189 [(21, .long s0), (0, .ref 58), (1, .int l1), (3, .int l3), (4, .int l4), (5, .long l5), (7, .long l7), (9, .int l9), (14, .int l14), (15, .long l15), (17, .long l17), (19, .long l19)] [.int (lg_cmp l17 (0 : Int64))] m Q
  refine y_zlt (t := 345) rfl rfl rfl (fun h => ?_) (fun h => ?_)
  · replace H := H.1 h; clear h
    show yP (xg xs) (d + 1) 390 345 [(21, .long s0), (0, .ref 58), (1, .int l1), (3, .int l3), (4, .int l4), (5, .long l5), (7, .long l7), (9, .int l9), (14, .int l14), (15, .long l15), (17, .long l17), (19, .long l19)] [] m Q
    refine y_headS (l2 := [(0, .ref 58), (1, .int l1), (3, .int l3), (4, .int l4), (5, .long l5), (7, .long l7), (9, .int l9), (14, .int l14)]) [1, 2, 3, 4, 5, 6, 7, 8] [0, 1, 3, 4, 5, 7, 9, 14] [21, 0, 1, 3, 4, 5, 7, 9, 14, 15, 17, 19] rfl rfl (by decide) rfl (by decide) ?_
    exact H
  · replace H := H.2 h; clear h
    refine y_st rfl rfl rfl rfl rfl (fun _ _ => rfl) ?_
    refine y_st rfl rfl rfl rfl rfl (fun _ _ => rfl) ?_
    refine y_st rfl rfl rfl rfl rfl (fun _ _ => rfl) ?_
    show yP (xg xs) (d + 1) 390 196 [(21, .long s0), (0, .ref 58), (1, .int l1), (3, .int l3), (4, .int l4), (5, .long l5), (7, .long l7), (9, .int l9), (14, .int l14), (15, .long l15), (17, .long l17), (19, .long l19)] [.int (lg_cmp l15 (0 : Int64))] m Q
    refine y_zne (t := 206) rfl rfl rfl (fun h => ?_) (fun h => ?_)
    · replace H := H.1 h; clear h
      refine y_st rfl rfl rfl rfl rfl (fun _ _ => rfl) ?_
      refine y_st rfl rfl rfl rfl rfl (fun _ _ => rfl) ?_
      refine y_st rfl rfl rfl rfl rfl (fun _ _ => rfl) ?_
      show yP (xg xs) (d + 1) 390 210 [(21, .long s0), (0, .ref 58), (1, .int l1), (3, .int l3), (4, .int l4), (5, .long l5), (7, .long l7), (9, .int l9), (14, .int l14), (15, .long l15), (17, .long l17), (19, .long l19)] [.int (lg_cmp l19 (0 : Int64))] m Q
      refine y_zlt (t := 229) rfl rfl rfl (fun h => ?_) (fun h => ?_)
      · replace H := H.1 h; clear h
        refine y_st rfl rfl rfl rfl rfl (fun _ _ => rfl) ?_
        show yP (xg xs) (d + 1) 390 232 [(21, .long s0), (0, .ref 58), (1, .int l1), (3, .int l3), (4, .int l4), (5, .long l5), (7, .long l7), (9, .int l9), (14, .int l14), (15, .long l15), (17, .long l17), (19, .long l19)] [.long ((-1) : Int64)] m Q
        refine y_headS (l2 := [(0, .ref 58), (1, .int l1), (3, .int l3), (4, .int l4), (5, .long l5), (7, .long l7), (9, .int l9), (14, .int l14), (15, .long l15), (17, .long l17), (21, .long s0)]) [1, 2, 3, 4, 5, 6, 7, 8, 9, 10, 0] [0, 1, 3, 4, 5, 7, 9, 14, 15, 17, 21] [21, 0, 1, 3, 4, 5, 7, 9, 14, 15, 17, 19] rfl rfl (by decide) rfl (by decide) ?_
        exact H
      · replace H := H.2 h; clear h
        refine y_st rfl rfl rfl rfl rfl (fun _ _ => rfl) ?_
        refine y_st rfl rfl rfl rfl rfl (fun _ _ => rfl) ?_
        refine y_st rfl rfl rfl rfl rfl (fun _ _ => rfl) ?_
        refine y_st rfl rfl rfl rfl rfl (fun _ _ => rfl) ?_
        refine y_st rfl rfl rfl rfl rfl (fun _ _ => rfl) ?_
        refine y_st rfl rfl rfl rfl rfl (fun _ _ => rfl) ?_
        refine y_st rfl rfl rfl rfl rfl (fun _ _ => rfl) ?_
        show yP (xg xs) (d + 1) 390 223 [(21, .long s0), (0, .ref 58), (1, .int l1), (3, .int l3), (4, .int l4), (5, .long l5), (7, .long l7), (9, .int l9), (14, .int l14), (15, .long l15), (17, .long l17), (19, .long l19)] [.long ((l17 + (l15 * l19)) + (1 : Int64))] m Q
        refine y_call rfl rfl rfl rfl rfl (Nat.le_of_ble_eq_true rfl) (Nat.le_of_ble_eq_true rfl) rfl (by decide) H (fun v1 m1 H => ?_)
        obtain ⟨u1, rfl, H⟩ := H
        refine y_st rfl rfl rfl rfl rfl (fun _ _ => rfl) ?_
        show yP (xg xs) (d + 1) 390 232 [(21, .long s0), (0, .ref 58), (1, .int l1), (3, .int l3), (4, .int l4), (5, .long l5), (7, .long l7), (9, .int l9), (14, .int l14), (15, .long l15), (17, .long l17), (19, .long l19)] [.long u1] m1 Q
        refine y_headS (l2 := [(0, .ref 58), (1, .int l1), (3, .int l3), (4, .int l4), (5, .long l5), (7, .long l7), (9, .int l9), (14, .int l14), (15, .long l15), (17, .long l17), (21, .long s0)]) [1, 2, 3, 4, 5, 6, 7, 8, 9, 10, 0] [0, 1, 3, 4, 5, 7, 9, 14, 15, 17, 21] [21, 0, 1, 3, 4, 5, 7, 9, 14, 15, 17, 19] rfl rfl (by decide) rfl (by decide) ?_
        exact H
    · replace H := H.2 h; clear h
      refine y_st rfl rfl rfl rfl rfl (fun _ _ => rfl) ?_
      refine y_st rfl rfl rfl rfl rfl (fun _ _ => rfl) ?_
      refine y_st rfl rfl rfl rfl rfl (fun _ _ => rfl) ?_
      refine y_st rfl rfl rfl rfl rfl (fun _ _ => rfl) ?_
      show yP (xg xs) (d + 1) 390 232 [(21, .long s0), (0, .ref 58), (1, .int l1), (3, .int l3), (4, .int l4), (5, .long l5), (7, .long l7), (9, .int l9), (14, .int l14), (15, .long l15), (17, .long l17), (19, .long l19)] [.long (l17 + (1 : Int64))] m Q
      refine y_headS (l2 := [(0, .ref 58), (1, .int l1), (3, .int l3), (4, .int l4), (5, .long l5), (7, .long l7), (9, .int l9), (14, .int l14), (15, .long l15), (17, .long l17), (21, .long s0)]) [1, 2, 3, 4, 5, 6, 7, 8, 9, 10, 0] [0, 1, 3, 4, 5, 7, 9, 14, 15, 17, 21] [21, 0, 1, 3, 4, 5, 7, 9, 14, 15, 17, 19] rfl rfl (by decide) rfl (by decide) ?_
      exact H
set_option maxRecDepth 20000 in
/-- CodeMakerModel.goThrough from 232 on -/
theorem w390_232 (xs : List Int32) (d : Nat) (l1 : Int32) (l3 : Int32) (l4 : Int32) (l5 : Int64) (l7 : Int64) (l9 : Int32) (l14 : Int32) (l15 : Int64) (l17 : Int64) (l21 : Int64) (s0 : Int64) (m : yM) (Q : Option Value → yM → Prop) (H : (((lg_cmp l15 (0 : Int64)) ≤ 0 → yP (xg xs) (d + 1) 390 273 [(0, .ref 58), (1, .int l1), (3, .int l3), (4, .int l4), (5, .long l5), (7, .long l7), (9, .int l9), (14, .int l14), (15, .long l15), (17, .long l17), (21, .long l21), (23, .long s0)] [] m Q) ∧ (¬ (lg_cmp l15 (0 : Int64)) ≤ 0 → (((lg_cmp (m.2 58 59) (0 : Int64)) < 0 → yP (xg xs) (d + 1) 390 273 [(0, .ref 58), (1, .int l1), (3, .int l3), (4, .int l4), (5, .long l5), (7, .long l7), (9, .int l9), (14, .int l14), (15, .long l15), (17, .long l17), (21, .long l21), (23, .long s0)] [] m Q) ∧ (¬ (lg_cmp (m.2 58 59) (0 : Int64)) < 0 → (yC (xg xs) d 391 [.long (((l17 + l21) + (1 : Int64)) + (m.2 58 59))] m (fun v1 m1 => ∃ u1, v1 = some (Value.long u1) ∧ (yC (xg xs) d 392 [.long s0, .long u1] m1 (fun v2 m2 => ∃ u2, v2 = some (Value.long u2) ∧ yP (xg xs) (d + 1) 390 275 [(0, .ref 58), (1, .int l1), (3, .int l3), (4, .int l4), (5, .long l5), (7, .long l7), (9, .int l9), (14, .int l14), (15, .long l15), (17, .long l17), (21, .long l21)] [.long u2] m2 Q))))))))) : yP (xg xs) (d + 1) 390 232 [(0, .ref 58), (1, .int l1), (3, .int l3), (4, .int l4), (5, .long l5), (7, .long l7), (9, .int l9), (14, .int l14), (15, .long l15), (17, .long l17), (21, .long l21)] [.long s0] m Q := by
  refine y_st rfl rfl rfl rfl rfl (fun _ _ => rfl) ?_
  refine y_st rfl rfl rfl rfl rfl (fun _ _ => rfl) ?_
  refine y_st rfl rfl rfl rfl rfl (fun _ _ => rfl) ?_
  refine y_st rfl rfl rfl rfl rfl (fun _ _ => rfl) ?_
  show yP (xg xs) (d + 1) 390 238 [(23, .long s0), (0, .ref 58), (1, .int l1), (3, .int l3), (4, .int l4), (5, .long l5), (7, .long l7), (9, .int l9), (14, .int l14), (15, .long l15), (17, .long l17), (21, .long l21)] [.int (lg_cmp l15 (0 : Int64))] m Q
  refine y_zle (t := 273) rfl rfl rfl (fun h => ?_) (fun h => ?_)
  · replace H := H.1 h; clear h
    show yP (xg xs) (d + 1) 390 273 [(23, .long s0), (0, .ref 58), (1, .int l1), (3, .int l3), (4, .int l4), (5, .long l5), (7, .long l7), (9, .int l9), (14, .int l14), (15, .long l15), (17, .long l17), (21, .long l21)] [] m Q
    refine y_headS (l2 := [(0, .ref 58), (1, .int l1), (3, .int l3), (4, .int l4), (5, .long l5), (7, .long l7), (9, .int l9), (14, .int l14), (15, .long l15), (17, .long l17), (21, .long l21), (23, .long s0)]) [1, 2, 3, 4, 5, 6, 7, 8, 9, 10, 11, 0] [0, 1, 3, 4, 5, 7, 9, 14, 15, 17, 21, 23] [23, 0, 1, 3, 4, 5, 7, 9, 14, 15, 17, 21] rfl rfl (by decide) rfl (by decide) ?_
    exact H
  · replace H := H.2 h; clear h
    refine y_st rfl rfl rfl rfl rfl (fun _ _ => rfl) ?_
    refine y_gf rfl rfl rfl rfl rfl ?_
    refine y_st rfl rfl rfl rfl rfl (fun _ _ => rfl) ?_
    refine y_st rfl rfl rfl rfl rfl (fun _ _ => rfl) ?_
    show yP (xg xs) (d + 1) 390 247 [(23, .long s0), (0, .ref 58), (1, .int l1), (3, .int l3), (4, .int l4), (5, .long l5), (7, .long l7), (9, .int l9), (14, .int l14), (15, .long l15), (17, .long l17), (21, .long l21)] [.int (lg_cmp (m.2 58 59) (0 : Int64))] m Q
    refine y_zlt (t := 273) rfl rfl rfl (fun h => ?_) (fun h => ?_)
    · replace H := H.1 h; clear h
      show yP (xg xs) (d + 1) 390 273 [(23, .long s0), (0, .ref 58), (1, .int l1), (3, .int l3), (4, .int l4), (5, .long l5), (7, .long l7), (9, .int l9), (14, .int l14), (15, .long l15), (17, .long l17), (21, .long l21)] [] m Q
      refine y_headS (l2 := [(0, .ref 58), (1, .int l1), (3, .int l3), (4, .int l4), (5, .long l5), (7, .long l7), (9, .int l9), (14, .int l14), (15, .long l15), (17, .long l17), (21, .long l21), (23, .long s0)]) [1, 2, 3, 4, 5, 6, 7, 8, 9, 10, 11, 0] [0, 1, 3, 4, 5, 7, 9, 14, 15, 17, 21, 23] [23, 0, 1, 3, 4, 5, 7, 9, 14, 15, 17, 21] rfl rfl (by decide) rfl (by decide) ?_
      exact H
    · replace H := H.2 h; clear h
      refine y_st rfl rfl rfl rfl rfl (fun _ _ => rfl) ?_
      refine y_st rfl rfl rfl rfl rfl (fun _ _ => rfl) ?_
      refine y_st rfl rfl rfl rfl rfl (fun _ _ => rfl) ?_
      refine y_st rfl rfl rfl rfl rfl (fun _ _ => rfl) ?_
      refine y_st rfl rfl rfl rfl rfl (fun _ _ => rfl) ?_
      refine y_st rfl rfl rfl rfl rfl (fun _ _ => rfl) ?_
      refine y_st rfl rfl rfl rfl rfl (fun _ _ => rfl) ?_
      refine y_gf rfl rfl rfl rfl rfl ?_
      refine y_st rfl rfl rfl rfl rfl (fun _ _ => rfl) ?_
      show yP (xg xs) (d + 1) 390 264 [(23, .long s0), (0, .ref 58), (1, .int l1), (3, .int l3), (4, .int l4), (5, .long l5), (7, .long l7), (9, .int l9), (14, .int l14), (15, .long l15), (17, .long l17), (21, .long l21)] [.long (((l17 + l21) + (1 : Int64)) + (m.2 58 59)), .long s0] m Q
      refine y_call rfl rfl rfl rfl rfl (Nat.le_of_ble_eq_true rfl) (Nat.le_of_ble_eq_true rfl) rfl (by decide) H (fun v1 m1 H => ?_)
      obtain ⟨u1, rfl, H⟩ := H
      show yP (xg xs) (d + 1) 390 267 [(23, .long s0), (0, .ref 58), (1, .int l1), (3, .int l3), (4, .int l4), (5, .long l5), (7, .long l7), (9, .int l9), (14, .int l14), (15, .long l15), (17, .long l17), (21, .long l21)] [.long u1, .long s0] m1 Q
      refine y_call rfl rfl rfl rfl rfl (Nat.le_of_ble_eq_true rfl) (Nat.le_of_ble_eq_true rfl) rfl (by decide) H (fun v2 m2 H => ?_)
      obtain ⟨u2, rfl, H⟩ := H
      refine y_st rfl rfl rfl rfl rfl (fun _ _ => rfl) ?_
      show yP (xg xs) (d + 1) 390 275 [(23, .long s0), (0, .ref 58), (1, .int l1), (3, .int l3), (4, .int l4), (5, .long l5), (7, .long l7), (9, .int l9), (14, .int l14), (15, .long l15), (17, .long l17), (21, .long l21)] [.long u2] m2 Q
      refine y_headS (l2 := [(0, .ref 58), (1, .int l1), (3, .int l3), (4, .int l4), (5, .long l5), (7, .long l7), (9, .int l9), (14, .int l14), (15, .long l15), (17, .long l17), (21, .long l21)]) [1, 2, 3, 4, 5, 6, 7, 8, 9, 10, 11] [0, 1, 3, 4, 5, 7, 9, 14, 15, 17, 21] [23, 0, 1, 3, 4, 5, 7, 9, 14, 15, 17, 21] rfl rfl (by decide) rfl (by decide) ?_
      exact H
set_option maxRecDepth 20000 in
/-- CodeMakerModel.goThrough from 273 on -/
theorem w390_273 (xs : List Int32) (d : Nat) (l1 : Int32) (l3 : Int32) (l4 : Int32) (l5 : Int64) (l7 : Int64) (l9 : Int32) (l14 : Int32) (l15 : Int64) (l17 : Int64) (l21 : Int64) (l23 : Int64) (m : yM) (Q : Option Value → yM → Prop) (H : yP (xg xs) (d + 1) 390 275 [(0, .ref 58), (1, .int l1), (3, .int l3), (4, .int l4), (5, .long l5), (7, .long l7), (9, .int l9), (14, .int l14), (15, .long l15), (17, .long l17), (21, .long l21)] [.long l23] m Q) : yP (xg xs) (d + 1) 390 273 [(0, .ref 58), (1, .int l1), (3, .int l3), (4, .int l4), (5, .long l5), (7, .long l7), (9, .int l9), (14, .int l14), (15, .long l15), (17, .long l17), (21, .long l21), (23, .long l23)] [] m Q := by
  refine y_st rfl rfl rfl rfl rfl (fun _ _ => rfl) ?_
  show yP (xg xs) (d + 1) 390 275 [(0, .ref 58), (1, .int l1), (3, .int l3), (4, .int l4), (5, .long l5), (7, .long l7), (9, .int l9), (14, .int l14), (15, .long l15), (17, .long l17), (21, .long l21), (23, .long l23)] [.long l23] m Q
  refine y_headS (l2 := [(0, .ref 58), (1, .int l1), (3, .int l3), (4, .int l4), (5, .long l5), (7, .long l7), (9, .int l9), (14, .int l14), (15, .long l15), (17, .long l17), (21, .long l21)]) [0, 1, 2, 3, 4, 5, 6, 7, 8, 9, 10] [0, 1, 3, 4, 5, 7, 9, 14, 15, 17, 21] [0, 1, 3, 4, 5, 7, 9, 14, 15, 17, 21, 23] rfl rfl (by decide) rfl (by decide) ?_
  exact H
set_option maxRecDepth 20000 in
/-- CodeMakerModel.goThrough from 275 on -/
theorem w390_275 (xs : List Int32) (d : Nat) (l1 : Int32) (l3 : Int32) (l4 : Int32) (l5 : Int64) (l7 : Int64) (l9 : Int32) (l14 : Int32) (l15 : Int64) (l17 : Int64) (l21 : Int64) (s0 : Int64) (m : yM) (Q : Option Value → yM → Prop) (H : (((lg_cmp l15 (0 : Int64)) ≤ 0 → yP (xg xs) (d + 1) 390 316 [(0, .ref 58), (1, .int l1), (3, .int l3), (4, .int l4), (5, .long l5), (7, .long l7), (9, .int l9), (14, .int l14), (23, .long s0)] [] m Q) ∧ (¬ (lg_cmp l15 (0 : Int64)) ≤ 0 → (((lg_cmp (m.2 58 60) (0 : Int64)) < 0 → yP (xg xs) (d + 1) 390 316 [(0, .ref 58), (1, .int l1), (3, .int l3), (4, .int l4), (5, .long l5), (7, .long l7), (9, .int l9), (14, .int l14), (23, .long s0)] [] m Q) ∧ (¬ (lg_cmp (m.2 58 60) (0 : Int64)) < 0 → (yC (xg xs) d 391 [.long (((l17 + l21) + (1 : Int64)) + (m.2 58 60))] m (fun v1 m1 => ∃ u1, v1 = some (Value.long u1) ∧ (yC (xg xs) d 392 [.long l7, .long u1] m1 (fun v2 m2 => ∃ u2, v2 = some (Value.long u2) ∧ yP (xg xs) (d + 1) 390 318 [(0, .ref 58), (1, .int l1), (3, .int l3), (4, .int l4), (5, .long l5), (9, .int l9), (14, .int l14), (23, .long s0)] [.long u2] m2 Q))))))))) : yP (xg xs) (d + 1) 390 275 [(0, .ref 58), (1, .int l1), (3, .int l3), (4, .int l4), (5, .long l5), (7, .long l7), (9, .int l9), (14, .int l14), (15, .long l15), (17, .long l17), (21, .long l21)] [.long s0] m Q := by
  refine y_st rfl rfl rfl rfl rfl (fun _ _ => rfl) ?_
  refine y_st rfl rfl rfl rfl rfl (fun _ _ => rfl) ?_
  refine y_st rfl rfl rfl rfl rfl (fun _ _ => rfl) ?_
  refine y_st rfl rfl rfl rfl rfl (fun _ _ => rfl) ?_
  show yP (xg xs) (d + 1) 390 281 [(23, .long s0), (0, .ref 58), (1, .int l1), (3, .int l3), (4, .int l4), (5, .long l5), (7, .long l7), (9, .int l9), (14, .int l14), (15, .long l15), (17, .long l17), (21, .long l21)] [.int (lg_cmp l15 (0 : Int64))] m Q
  refine y_zle (t := 316) rfl rfl rfl (fun h => ?_) (fun h => ?_)
  · replace H := H.1 h; clear h
    show yP (xg xs) (d + 1) 390 316 [(23, .long s0), (0, .ref 58), (1, .int l1), (3, .int l3), (4, .int l4), (5, .long l5), (7, .long l7), (9, .int l9), (14, .int l14), (15, .long l15), (17, .long l17), (21, .long l21)] [] m Q
    refine y_headS (l2 := [(0, .ref 58), (1, .int l1), (3, .int l3), (4, .int l4), (5, .long l5), (7, .long l7), (9, .int l9), (14, .int l14), (23, .long s0)]) [1, 2, 3, 4, 5, 6, 7, 8, 0] [0, 1, 3, 4, 5, 7, 9, 14, 23] [23, 0, 1, 3, 4, 5, 7, 9, 14, 15, 17, 21] rfl rfl (by decide) rfl (by decide) ?_
    exact H
  · replace H := H.2 h; clear h
    refine y_st rfl rfl rfl rfl rfl (fun _ _ => rfl) ?_
    refine y_gf rfl rfl rfl rfl rfl ?_
    refine y_st rfl rfl rfl rfl rfl (fun _ _ => rfl) ?_
    refine y_st rfl rfl rfl rfl rfl (fun _ _ => rfl) ?_
    show yP (xg xs) (d + 1) 390 290 [(23, .long s0), (0, .ref 58), (1, .int l1), (3, .int l3), (4, .int l4), (5, .long l5), (7, .long l7), (9, .int l9), (14, .int l14), (15, .long l15), (17, .long l17), (21, .long l21)] [.int (lg_cmp (m.2 58 60) (0 : Int64))] m Q
    refine y_zlt (t := 316) rfl rfl rfl (fun h => ?_) (fun h => ?_)
    · replace H := H.1 h; clear h
      show yP (xg xs) (d + 1) 390 316 [(23, .long s0), (0, .ref 58), (1, .int l1), (3, .int l3), (4, .int l4), (5, .long l5), (7, .long l7), (9, .int l9), (14, .int l14), (15, .long l15), (17, .long l17), (21, .long l21)] [] m Q
      refine y_headS (l2 := [(0, .ref 58), (1, .int l1), (3, .int l3), (4, .int l4), (5, .long l5), (7, .long l7), (9, .int l9), (14, .int l14), (23, .long s0)]) [1, 2, 3, 4, 5, 6, 7, 8, 0] [0, 1, 3, 4, 5, 7, 9, 14, 23] [23, 0, 1, 3, 4, 5, 7, 9, 14, 15, 17, 21] rfl rfl (by decide) rfl (by decide) ?_
      exact H
    · replace H := H.2 h; clear h
      refine y_st rfl rfl rfl rfl rfl (fun _ _ => rfl) ?_
      refine y_st rfl rfl rfl rfl rfl (fun _ _ => rfl) ?_
      refine y_st rfl rfl rfl rfl rfl (fun _ _ => rfl) ?_
      refine y_st rfl rfl rfl rfl rfl (fun _ _ => rfl) ?_
      refine y_st rfl rfl rfl rfl rfl (fun _ _ => rfl) ?_
      refine y_st rfl rfl rfl rfl rfl (fun _ _ => rfl) ?_
      refine y_st rfl rfl rfl rfl rfl (fun _ _ => rfl) ?_
      refine y_gf rfl rfl rfl rfl rfl ?_
      refine y_st rfl rfl rfl rfl rfl (fun _ _ => rfl) ?_
      show yP (xg xs) (d + 1) 390 307 [(23, .long s0), (0, .ref 58), (1, .int l1), (3, .int l3), (4, .int l4), (5, .long l5), (7, .long l7), (9, .int l9), (14, .int l14), (15, .long l15), (17, .long l17), (21, .long l21)] [.long (((l17 + l21) + (1 : Int64)) + (m.2 58 60)), .long l7] m Q
      refine y_call rfl rfl rfl rfl rfl (Nat.le_of_ble_eq_true rfl) (Nat.le_of_ble_eq_true rfl) rfl (by decide) H (fun v1 m1 H => ?_)
      obtain ⟨u1, rfl, H⟩ := H
      show yP (xg xs) (d + 1) 390 310 [(23, .long s0), (0, .ref 58), (1, .int l1), (3, .int l3), (4, .int l4), (5, .long l5), (7, .long l7), (9, .int l9), (14, .int l14), (15, .long l15), (17, .long l17), (21, .long l21)] [.long u1, .long l7] m1 Q
      refine y_call rfl rfl rfl rfl rfl (Nat.le_of_ble_eq_true rfl) (Nat.le_of_ble_eq_true rfl) rfl (by decide) H (fun v2 m2 H => ?_)
      obtain ⟨u2, rfl, H⟩ := H
      refine y_st rfl rfl rfl rfl rfl (fun _ _ => rfl) ?_
      show yP (xg xs) (d + 1) 390 318 [(23, .long s0), (0, .ref 58), (1, .int l1), (3, .int l3), (4, .int l4), (5, .long l5), (7, .long l7), (9, .int l9), (14, .int l14), (15, .long l15), (17, .long l17), (21, .long l21)] [.long u2] m2 Q
      refine y_headS (l2 := [(0, .ref 58), (1, .int l1), (3, .int l3), (4, .int l4), (5, .long l5), (9, .int l9), (14, .int l14), (23, .long s0)]) [1, 2, 3, 4, 5, 7, 8, 0] [0, 1, 3, 4, 5, 9, 14, 23] [23, 0, 1, 3, 4, 5, 7, 9, 14, 15, 17, 21] rfl rfl (by decide) rfl (by decide) ?_
      exact H
set_option maxRecDepth 20000 in
/-- CodeMakerModel.goThrough from 316 on -/
theorem w390_316 (xs : List Int32) (d : Nat) (l1 : Int32) (l3 : Int32) (l4 : Int32) (l5 : Int64) (l7 : Int64) (l9 : Int32) (l14 : Int32) (l23 : Int64) (m : yM) (Q : Option Value → yM → Prop) (H : yP (xg xs) (d + 1) 390 318 [(0, .ref 58), (1, .int l1), (3, .int l3), (4, .int l4), (5, .long l5), (9, .int l9), (14, .int l14), (23, .long l23)] [.long l7] m Q) : yP (xg xs) (d + 1) 390 316 [(0, .ref 58), (1, .int l1), (3, .int l3), (4, .int l4), (5, .long l5), (7, .long l7), (9, .int l9), (14, .int l14), (23, .long l23)] [] m Q := by
  refine y_st rfl rfl rfl rfl rfl (fun _ _ => rfl) ?_
  show yP (xg xs) (d + 1) 390 318 [(0, .ref 58), (1, .int l1), (3, .int l3), (4, .int l4), (5, .long l5), (7, .long l7), (9, .int l9), (14, .int l14), (23, .long l23)] [.long l7] m Q
  refine y_headS (l2 := [(0, .ref 58), (1, .int l1), (3, .int l3), (4, .int l4), (5, .long l5), (9, .int l9), (14, .int l14), (23, .long l23)]) [0, 1, 2, 3, 4, 6, 7, 8] [0, 1, 3, 4, 5, 9, 14, 23] [0, 1, 3, 4, 5, 7, 9, 14, 23] rfl rfl (by decide) rfl (by decide) ?_
  exact H
set_option maxRecDepth 20000 in
/-- CodeMakerModel.goThrough from 318 on -/
theorem w390_318 (xs : List Int32) (d : Nat) (l1 : Int32) (l3 : Int32) (l4 : Int32) (l5 : Int64) (l9 : Int32) (l14 : Int32) (l23 : Int64) (s0 : Int64) (m : yM) (Q : Option Value → yM → Prop) (H : (x_in (l4 + l14) 3002 = true ∧ (yC (xg xs) d 392 [.long (m.2 97 ((l4 + l14).toNatClampNeg)), .long l23] m (fun v1 m1 => ∃ u1, v1 = some (Value.long u1) ∧ (x_in (l4 + l14) 3002 = true ∧ yP (xg xs) (d + 1) 390 345 [(0, .ref 58), (1, .int l1), (3, .int l3), (4, .int l4), (5, .long l5), (7, .long s0), (9, .int l9), (14, .int l14)] [] (y_sl m1 97 ((l4 + l14).toNatClampNeg) u1) Q))))) : yP (xg xs) (d + 1) 390 318 [(0, .ref 58), (1, .int l1), (3, .int l3), (4, .int l4), (5, .long l5), (9, .int l9), (14, .int l14), (23, .long l23)] [.long s0] m Q := by
  refine y_st rfl rfl rfl rfl rfl (fun _ _ => rfl) ?_
  refine y_st rfl rfl rfl rfl rfl (fun _ _ => rfl) ?_
  refine y_gf rfl rfl rfl rfl rfl ?_
  refine y_st rfl rfl rfl rfl rfl (fun _ _ => rfl) ?_
  refine y_st rfl rfl rfl rfl rfl (fun _ _ => rfl) ?_
  refine y_st rfl rfl rfl rfl rfl (fun _ _ => rfl) ?_
  refine y_st rfl rfl rfl rfl rfl (fun _ _ => rfl) ?_
  refine y_gf rfl rfl rfl rfl rfl ?_
  refine y_st rfl rfl rfl rfl rfl (fun _ _ => rfl) ?_
  refine y_st rfl rfl rfl rfl rfl (fun _ _ => rfl) ?_
  refine y_st rfl rfl rfl rfl rfl (fun _ _ => rfl) ?_
  show yP (xg xs) (d + 1) 390 338 [(7, .long s0), (0, .ref 58), (1, .int l1), (3, .int l3), (4, .int l4), (5, .long l5), (9, .int l9), (14, .int l14), (23, .long l23)] [.int (l4 + l14), .ref 97, .int (l4 + l14), .ref 97] m Q
  refine y_lald rfl rfl rfl (H.1) ?_
  replace H := H.2
  refine y_st rfl rfl rfl rfl rfl (fun _ _ => rfl) ?_
  show yP (xg xs) (d + 1) 390 341 [(7, .long s0), (0, .ref 58), (1, .int l1), (3, .int l3), (4, .int l4), (5, .long l5), (9, .int l9), (14, .int l14), (23, .long l23)] [.long l23, .long (m.2 97 ((l4 + l14).toNatClampNeg)), .int (l4 + l14), .ref 97] m Q
  refine y_call rfl rfl rfl rfl rfl (Nat.le_of_ble_eq_true rfl) (Nat.le_of_ble_eq_true rfl) rfl (by decide) H (fun v1 m1 H => ?_)
  obtain ⟨u1, rfl, H⟩ := H
  show yP (xg xs) (d + 1) 390 344 [(7, .long s0), (0, .ref 58), (1, .int l1), (3, .int l3), (4, .int l4), (5, .long l5), (9, .int l9), (14, .int l14), (23, .long l23)] [.long u1, .int (l4 + l14), .ref 97] m1 Q
  refine y_last rfl rfl rfl (H.1) ?_
  replace H := H.2
  show yP (xg xs) (d + 1) 390 345 [(7, .long s0), (0, .ref 58), (1, .int l1), (3, .int l3), (4, .int l4), (5, .long l5), (9, .int l9), (14, .int l14), (23, .long l23)] [] (y_sl m1 97 ((l4 + l14).toNatClampNeg) u1) Q
  refine y_headS (l2 := [(0, .ref 58), (1, .int l1), (3, .int l3), (4, .int l4), (5, .long l5), (7, .long s0), (9, .int l9), (14, .int l14)]) [1, 2, 3, 4, 5, 0, 6, 7] [0, 1, 3, 4, 5, 7, 9, 14] [7, 0, 1, 3, 4, 5, 9, 14, 23] rfl rfl (by decide) rfl (by decide) ?_
  exact H
set_option maxRecDepth 20000 in
/-- CodeMakerModel.goThrough from 345 on -/
theorem w390_345 (xs : List Int32) (d : Nat) (l1 : Int32) (l3 : Int32) (l4 : Int32) (l5 : Int64) (l7 : Int64) (l9 : Int32) (l14 : Int32) (m : yM) (Q : Option Value → yM → Prop) (H : yP (xg xs) (d + 1) 390 571 [(0, .ref 58), (1, .int l1), (3, .int l3), (4, .int l4), (5, .long l5), (7, .long l7), (9, .int l9), (13, .int (l14 - l9))] [] m Q) : yP (xg xs) (d + 1) 390 345 [(0, .ref 58), (1, .int l1), (3, .int l3), (4, .int l4), (5, .long l5), (7, .long l7), (9, .int l9), (14, .int l14)] [] m Q := by
  refine y_st rfl rfl rfl rfl rfl (fun _ _ => rfl) ?_
  refine y_st rfl rfl rfl rfl rfl (fun _ _ => rfl) ?_
  refine y_st rfl rfl rfl rfl rfl (fun _ _ => rfl) ?_
  refine y_st rfl rfl rfl rfl rfl (fun _ _ => rfl) ?_
  refine y_st rfl rfl rfl rfl rfl (fun _ _ => rfl) ?_
  show yP (xg xs) (d + 1) 390 571 [(13, .int (l14 - l9)), (0, .ref 58), (1, .int l1), (3, .int l3), (4, .int l4), (5, .long l5), (7, .long l7), (9, .int l9), (14, .int l14)] [] m Q
  refine y_headS (l2 := [(0, .ref 58), (1, .int l1), (3, .int l3), (4, .int l4), (5, .long l5), (7, .long l7), (9, .int l9), (13, .int (l14 - l9))]) [1, 2, 3, 4, 5, 6, 7, 0] [0, 1, 3, 4, 5, 7, 9, 13] [13, 0, 1, 3, 4, 5, 7, 9, 14] rfl rfl (by decide) rfl (by decide) ?_
  exact H
set_option maxRecDepth 20000 in
/-- CodeMakerModel.goThrough from 390 on -/
theorem w390_390 (xs : List Int32) (d : Nat) (l1 : Int32) (l3 : Int32) (l4 : Int32) (l5 : Int64) (l7 : Int64) (l9 : Int32) (l10 : Int32) (l13 : Int32) (s0 : Int64) (m : yM) (Q : Option Value → yM → Prop) (H : (x_in l10 3001 = true ∧ (x_in (m.1 90 l10.toNatClampNeg) 400 = true ∧ yP (xg xs) (d + 1) 390 406 [(0, .ref 58), (1, .int l1), (3, .int l3), (4, .int l4), (5, .long l5), (7, .long l7), (9, .int l9), (10, .int l10), (13, .int l13)] [.long (m.2 94 ((m.1 90 l10.toNatClampNeg).toNatClampNeg)), .long s0] m Q))) : yP (xg xs) (d + 1) 390 390 [(0, .ref 58), (1, .int l1), (3, .int l3), (4, .int l4), (5, .long l5), (7, .long l7), (9, .int l9), (10, .int l10), (13, .int l13)] [.long s0] m Q := by
  refine y_st rfl rfl rfl rfl rfl (fun _ _ => rfl) ?_
  refine y_gf rfl rfl rfl rfl rfl ?_
  refine y_st rfl rfl rfl rfl rfl (fun _ _ => rfl) ?_
  refine y_gf rfl rfl rfl rfl rfl ?_
  refine y_st rfl rfl rfl rfl rfl (fun _ _ => rfl) ?_
  show yP (xg xs) (d + 1) 390 400 [(0, .ref 58), (1, .int l1), (3, .int l3), (4, .int l4), (5, .long l5), (7, .long l7), (9, .int l9), (10, .int l10), (13, .int l13)] [.int l10, .ref 90, .ref 94, .long s0] m Q
  refine y_iald rfl rfl rfl (H.1) ?_
  replace H := H.2
  show yP (xg xs) (d + 1) 390 401 [(0, .ref 58), (1, .int l1), (3, .int l3), (4, .int l4), (5, .long l5), (7, .long l7), (9, .int l9), (10, .int l10), (13, .int l13)] [.int (m.1 90 l10.toNatClampNeg), .ref 94, .long s0] m Q
  refine y_lald rfl rfl rfl (H.1) ?_
  replace H := H.2
  refine y_st rfl rfl rfl rfl rfl (fun _ _ => rfl) ?_
  show yP (xg xs) (d + 1) 390 406 [(0, .ref 58), (1, .int l1), (3, .int l3), (4, .int l4), (5, .long l5), (7, .long l7), (9, .int l9), (10, .int l10), (13, .int l13)] [.long (m.2 94 ((m.1 90 l10.toNatClampNeg).toNatClampNeg)), .long s0] m Q
  exact H
set_option maxRecDepth 20000 in
/-- CodeMakerModel.goThrough from 406 on -/
theorem w390_406 (xs : List Int32) (d : Nat) (l1 : Int32) (l3 : Int32) (l4 : Int32) (l5 : Int64) (l7 : Int64) (l9 : Int32) (l10 : Int32) (l13 : Int32) (s0 : Int64) (s1 : Int64) (m : yM) (Q : Option Value → yM → Prop) (H : (yC (xg xs) d 391 [.long (s0 + s1)] m (fun v1 m1 => ∃ u1, v1 = some (Value.long u1) ∧ (x_in l10 3001 = true ∧ ((¬ (m1.1 89 l10.toNatClampNeg) = (10 : Int32) → yP (xg xs) (d + 1) 390 447 [(0, .ref 58), (1, .int l1), (3, .int l3), (4, .int l4), (5, .long l5), (7, .long l7), (9, .int l9), (10, .int l10), (13, .int l13), (14, .long u1)] [] m1 Q) ∧ ((m1.1 89 l10.toNatClampNeg) = (10 : Int32) → (x_in l10 3001 = true ∧ (((m1.1 90 l10.toNatClampNeg) ≤ l3 → yP (xg xs) (d + 1) 390 447 [(0, .ref 58), (1, .int l1), (3, .int l3), (4, .int l4), (5, .long l5), (7, .long l7), (9, .int l9), (10, .int l10), (13, .int l13), (14, .long u1)] [] m1 Q) ∧ (¬ (m1.1 90 l10.toNatClampNeg) ≤ l3 → (yC (xg xs) d 392 [.long l5, .long u1] m1 (fun v2 m2 => ∃ u2, v2 = some (Value.long u2) ∧ yP (xg xs) (d + 1) 390 571 [(0, .ref 58), (1, .int l1), (3, .int l3), (4, .int l4), (5, .long u2), (7, .long l7), (9, .int l9), (13, .int l13)] [] m2 Q))))))))))) : yP (xg xs) (d + 1) 390 406 [(0, .ref 58), (1, .int l1), (3, .int l3), (4, .int l4), (5, .long l5), (7, .long l7), (9, .int l9), (10, .int l10), (13, .int l13)] [.long s1, .long s0] m Q := by
  refine y_st rfl rfl rfl rfl rfl (fun _ _ => rfl) ?_
  show yP (xg xs) (d + 1) 390 407 [(0, .ref 58), (1, .int l1), (3, .int l3), (4, .int l4), (5, .long l5), (7, .long l7), (9, .int l9), (10, .int l10), (13, .int l13)] [.long (s0 + s1)] m Q
  refine y_call rfl rfl rfl rfl rfl (Nat.le_of_ble_eq_true rfl) (Nat.le_of_ble_eq_true rfl) rfl (by decide) H (fun v1 m1 H => ?_)
  obtain ⟨u1, rfl, H⟩ := H
  refine y_st rfl rfl rfl rfl rfl (fun _ _ => rfl) ?_
  refine y_st rfl rfl rfl rfl rfl (fun _ _ => rfl) ?_
  refine y_gf rfl rfl rfl rfl rfl ?_
  refine y_st rfl rfl rfl rfl rfl (fun _ _ => rfl) ?_
  show yP (xg xs) (d + 1) 390 418 [(14, .long u1), (0, .ref 58), (1, .int l1), (3, .int l3), (4, .int l4), (5, .long l5), (7, .long l7), (9, .int l9), (10, .int l10), (13, .int l13)] [.int l10, .ref 89] m1 Q
  refine y_iald rfl rfl rfl (H.1) ?_
  replace H := H.2
  refine y_st rfl rfl rfl rfl rfl (fun _ _ => rfl) ?_
  show yP (xg xs) (d + 1) 390 421 [(14, .long u1), (0, .ref 58), (1, .int l1), (3, .int l3), (4, .int l4), (5, .long l5), (7, .long l7), (9, .int l9), (10, .int l10), (13, .int l13)] [.int (10 : Int32), .int (m1.1 89 l10.toNatClampNeg)] m1 Q
  refine y_ine (t := 447) rfl rfl rfl (fun h => ?_) (fun h => ?_)
  · replace H := H.1 h; clear h
    show yP (xg xs) (d + 1) 390 447 [(14, .long u1), (0, .ref 58), (1, .int l1), (3, .int l3), (4, .int l4), (5, .long l5), (7, .long l7), (9, .int l9), (10, .int l10), (13, .int l13)] [] m1 Q
    refine y_headS (l2 := [(0, .ref 58), (1, .int l1), (3, .int l3), (4, .int l4), (5, .long l5), (7, .long l7), (9, .int l9), (10, .int l10), (13, .int l13), (14, .long u1)]) [1, 2, 3, 4, 5, 6, 7, 8, 9, 0] [0, 1, 3, 4, 5, 7, 9, 10, 13, 14] [14, 0, 1, 3, 4, 5, 7, 9, 10, 13] rfl rfl (by decide) rfl (by decide) ?_
    exact H
  · replace H := H.2 h; clear h
    refine y_st rfl rfl rfl rfl rfl (fun _ _ => rfl) ?_
    refine y_gf rfl rfl rfl rfl rfl ?_
    refine y_st rfl rfl rfl rfl rfl (fun _ _ => rfl) ?_
    show yP (xg xs) (d + 1) 390 430 [(14, .long u1), (0, .ref 58), (1, .int l1), (3, .int l3), (4, .int l4), (5, .long l5), (7, .long l7), (9, .int l9), (10, .int l10), (13, .int l13)] [.int l10, .ref 90] m1 Q
    refine y_iald rfl rfl rfl (H.1) ?_
    replace H := H.2
    refine y_st rfl rfl rfl rfl rfl (fun _ _ => rfl) ?_
    show yP (xg xs) (d + 1) 390 432 [(14, .long u1), (0, .ref 58), (1, .int l1), (3, .int l3), (4, .int l4), (5, .long l5), (7, .long l7), (9, .int l9), (10, .int l10), (13, .int l13)] [.int l3, .int (m1.1 90 l10.toNatClampNeg)] m1 Q
    refine y_ile (t := 447) rfl rfl rfl (fun h => ?_) (fun h => ?_)
    · replace H := H.1 h; clear h
      show yP (xg xs) (d + 1) 390 447 [(14, .long u1), (0, .ref 58), (1, .int l1), (3, .int l3), (4, .int l4), (5, .long l5), (7, .long l7), (9, .int l9), (10, .int l10), (13, .int l13)] [] m1 Q
      refine y_headS (l2 := [(0, .ref 58), (1, .int l1), (3, .int l3), (4, .int l4), (5, .long l5), (7, .long l7), (9, .int l9), (10, .int l10), (13, .int l13), (14, .long u1)]) [1, 2, 3, 4, 5, 6, 7, 8, 9, 0] [0, 1, 3, 4, 5, 7, 9, 10, 13, 14] [14, 0, 1, 3, 4, 5, 7, 9, 10, 13] rfl rfl (by decide) rfl (by decide) ?_
      exact H
    · replace H := H.2 h; clear h
      refine y_st rfl rfl rfl rfl rfl (fun _ _ => rfl) ?_
      refine y_st rfl rfl rfl rfl rfl (fun _ _ => rfl) ?_
      show yP (xg xs) (d + 1) 390 439 [(14, .long u1), (0, .ref 58), (1, .int l1), (3, .int l3), (4, .int l4), (5, .long l5), (7, .long l7), (9, .int l9), (10, .int l10), (13, .int l13)] [.long u1, .long l5] m1 Q
      refine y_call rfl rfl rfl rfl rfl (Nat.le_of_ble_eq_true rfl) (Nat.le_of_ble_eq_true rfl) rfl (by decide) H (fun v2 m2 H => ?_)
      obtain ⟨u2, rfl, H⟩ := H
      refine y_st rfl rfl rfl rfl rfl (fun _ _ => rfl) ?_
      refine y_st rfl rfl rfl rfl rfl (fun _ _ => rfl) ?_
      show yP (xg xs) (d + 1) 390 571 [(5, .long u2), (14, .long u1), (0, .ref 58), (1, .int l1), (3, .int l3), (4, .int l4), (7, .long l7), (9, .int l9), (10, .int l10), (13, .int l13)] [] m2 Q
      refine y_headS (l2 := [(0, .ref 58), (1, .int l1), (3, .int l3), (4, .int l4), (5, .long u2), (7, .long l7), (9, .int l9), (13, .int l13)]) [2, 3, 4, 5, 0, 6, 7, 9] [0, 1, 3, 4, 5, 7, 9, 13] [5, 14, 0, 1, 3, 4, 7, 9, 10, 13] rfl rfl (by decide) rfl (by decide) ?_
      exact H
set_option maxRecDepth 20000 in
/-- CodeMakerModel.goThrough from 447 on -/
theorem w390_447 (xs : List Int32) (d : Nat) (l1 : Int32) (l3 : Int32) (l4 : Int32) (l5 : Int64) (l7 : Int64) (l9 : Int32) (l10 : Int32) (l13 : Int32) (l14 : Int64) (m : yM) (Q : Option Value → yM → Prop) (H : (x_in l10 3001 = true ∧ ((¬ (m.1 89 l10.toNatClampNeg) = (18 : Int32) → (x_in l10 3001 = true ∧ ((¬ (m.1 89 l10.toNatClampNeg) = (10 : Int32) → yP (xg xs) (d + 1) 390 497 [(0, .ref 58), (1, .int l1), (3, .int l3), (4, .int l4), (5, .long l5), (7, .long l7), (9, .int l9), (10, .int l10), (13, .int l13), (14, .long l14)] [.int (l9 + (1 : Int32))] m Q) ∧ ((m.1 89 l10.toNatClampNeg) = (10 : Int32) → (x_in l10 3001 = true ∧ yP (xg xs) (d + 1) 390 497 [(0, .ref 58), (1, .int l1), (3, .int l3), (4, .int l4), (5, .long l5), (7, .long l7), (9, .int l9), (10, .int l10), (13, .int l13), (14, .long l14)] [.int (m.1 90 l10.toNatClampNeg)] m Q))))) ∧ ((m.1 89 l10.toNatClampNeg) = (18 : Int32) → (yC (xg xs) d 392 [.long l7, .long l14] m (fun v1 m1 => ∃ u1, v1 = some (Value.long u1) ∧ yP (xg xs) (d + 1) 390 571 [(0, .ref 58), (1, .int l1), (3, .int l3), (4, .int l4), (5, .long l5), (7, .long u1), (9, .int l9), (13, .int l13)] [] m1 Q)))))) : yP (xg xs) (d + 1) 390 447 [(0, .ref 58), (1, .int l1), (3, .int l3), (4, .int l4), (5, .long l5), (7, .long l7), (9, .int l9), (10, .int l10), (13, .int l13), (14, .long l14)] [] m Q := by
  refine y_st rfl rfl rfl rfl rfl (fun _ _ => rfl) ?_
  refine y_gf rfl rfl rfl rfl rfl ?_
  refine y_st rfl rfl rfl rfl rfl (fun _ _ => rfl) ?_
  show yP (xg xs) (d + 1) 390 453 [(0, .ref 58), (1, .int l1), (3, .int l3), (4, .int l4), (5, .long l5), (7, .long l7), (9, .int l9), (10, .int l10), (13, .int l13), (14, .long l14)] [.int l10, .ref 89] m Q
  refine y_iald rfl rfl rfl (H.1) ?_
  replace H := H.2
  refine y_st rfl rfl rfl rfl rfl (fun _ _ => rfl) ?_
  show yP (xg xs) (d + 1) 390 456 [(0, .ref 58), (1, .int l1), (3, .int l3), (4, .int l4), (5, .long l5), (7, .long l7), (9, .int l9), (10, .int l10), (13, .int l13), (14, .long l14)] [.int (18 : Int32), .int (m.1 89 l10.toNatClampNeg)] m Q
  refine y_ine (t := 471) rfl rfl rfl (fun h => ?_) (fun h => ?_)
  · replace H := H.1 h; clear h
    refine y_st rfl rfl rfl rfl rfl (fun _ _ => rfl) ?_
    refine y_gf rfl rfl rfl rfl rfl ?_
    refine y_st rfl rfl rfl rfl rfl (fun _ _ => rfl) ?_
    show yP (xg xs) (d + 1) 390 477 [(0, .ref 58), (1, .int l1), (3, .int l3), (4, .int l4), (5, .long l5), (7, .long l7), (9, .int l9), (10, .int l10), (13, .int l13), (14, .long l14)] [.int l10, .ref 89] m Q
    refine y_iald rfl rfl rfl (H.1) ?_
    replace H := H.2
    refine y_st rfl rfl rfl rfl rfl (fun _ _ => rfl) ?_
    show yP (xg xs) (d + 1) 390 480 [(0, .ref 58), (1, .int l1), (3, .int l3), (4, .int l4), (5, .long l5), (7, .long l7), (9, .int l9), (10, .int l10), (13, .int l13), (14, .long l14)] [.int (10 : Int32), .int (m.1 89 l10.toNatClampNeg)] m Q
    refine y_ine (t := 493) rfl rfl rfl (fun h => ?_) (fun h => ?_)
    · replace H := H.1 h; clear h
      refine y_st rfl rfl rfl rfl rfl (fun _ _ => rfl) ?_
      refine y_st rfl rfl rfl rfl rfl (fun _ _ => rfl) ?_
      refine y_st rfl rfl rfl rfl rfl (fun _ _ => rfl) ?_
      show yP (xg xs) (d + 1) 390 497 [(0, .ref 58), (1, .int l1), (3, .int l3), (4, .int l4), (5, .long l5), (7, .long l7), (9, .int l9), (10, .int l10), (13, .int l13), (14, .long l14)] [.int (l9 + (1 : Int32))] m Q
      exact H
    · replace H := H.2 h; clear h
      refine y_st rfl rfl rfl rfl rfl (fun _ _ => rfl) ?_
      refine y_gf rfl rfl rfl rfl rfl ?_
      refine y_st rfl rfl rfl rfl rfl (fun _ _ => rfl) ?_
      show yP (xg xs) (d + 1) 390 489 [(0, .ref 58), (1, .int l1), (3, .int l3), (4, .int l4), (5, .long l5), (7, .long l7), (9, .int l9), (10, .int l10), (13, .int l13), (14, .long l14)] [.int l10, .ref 90] m Q
      refine y_iald rfl rfl rfl (H.1) ?_
      replace H := H.2
      refine y_st rfl rfl rfl rfl rfl (fun _ _ => rfl) ?_
      show yP (xg xs) (d + 1) 390 497 [(0, .ref 58), (1, .int l1), (3, .int l3), (4, .int l4), (5, .long l5), (7, .long l7), (9, .int l9), (10, .int l10), (13, .int l13), (14, .long l14)] [.int (m.1 90 l10.toNatClampNeg)] m Q
      exact H
  · replace H := H.2 h; clear h
    refine y_st rfl rfl rfl rfl rfl (fun _ _ => rfl) ?_
    refine y_st rfl rfl rfl rfl rfl (fun _ _ => rfl) ?_
    show yP (xg xs) (d + 1) 390 463 [(0, .ref 58), (1, .int l1), (3, .int l3), (4, .int l4), (5, .long l5), (7, .long l7), (9, .int l9), (10, .int l10), (13, .int l13), (14, .long l14)] [.long l14, .long l7] m Q
    refine y_call rfl rfl rfl rfl rfl (Nat.le_of_ble_eq_true rfl) (Nat.le_of_ble_eq_true rfl) rfl (by decide) H (fun v1 m1 H => ?_)
    obtain ⟨u1, rfl, H⟩ := H
    refine y_st rfl rfl rfl rfl rfl (fun _ _ => rfl) ?_
    refine y_st rfl rfl rfl rfl rfl (fun _ _ => rfl) ?_
    show yP (xg xs) (d + 1) 390 571 [(7, .long u1), (0, .ref 58), (1, .int l1), (3, .int l3), (4, .int l4), (5, .long l5), (9, .int l9), (10, .int l10), (13, .int l13), (14, .long l14)] [] m1 Q
    refine y_headS (l2 := [(0, .ref 58), (1, .int l1), (3, .int l3), (4, .int l4), (5, .long l5), (7, .long u1), (9, .int l9), (13, .int l13)]) [1, 2, 3, 4, 5, 0, 6, 8] [0, 1, 3, 4, 5, 7, 9, 13] [7, 0, 1, 3, 4, 5, 9, 10, 13, 14] rfl rfl (by decide) rfl (by decide) ?_
    exact H
set_option maxRecDepth 20000 in
/-- CodeMakerModel.goThrough from 497 on -/
theorem w390_497 (xs : List Int32) (d : Nat) (l1 : Int32) (l3 : Int32) (l4 : Int32) (l5 : Int64) (l7 : Int64) (l9 : Int32) (l10 : Int32) (l13 : Int32) (l14 : Int64) (s0 : Int32) (m : yM) (Q : Option Value → yM → Prop) (H : (x_in (l4 + s0) 3002 = true ∧ (yC (xg xs) d 392 [.long (m.2 97 ((l4 + s0).toNatClampNeg)), .long l14] m (fun v1 m1 => ∃ u1, v1 = some (Value.long u1) ∧ (x_in (l4 + s0) 3002 = true ∧ (x_in l10 3001 = true ∧ ((¬ (m1.1 89 l10.toNatClampNeg) = (11 : Int32) → yP (xg xs) (d + 1) 390 571 [(0, .ref 58), (1, .int l1), (3, .int l3), (4, .int l4), (5, .long l5), (7, .long l7), (9, .int l9), (13, .int l13)] [] (y_sl m1 97 ((l4 + s0).toNatClampNeg) u1) Q) ∧ ((m1.1 89 l10.toNatClampNeg) = (11 : Int32) → (x_in l10 3001 = true ∧ (x_in l10 3001 = true ∧ (x_in (l4 + (m1.1 90 l10.toNatClampNeg)) 3002 = true ∧ (yC (xg xs) d 392 [.long ((y_sl m1 97 ((l4 + s0).toNatClampNeg) u1).2 97 ((l4 + (m1.1 90 l10.toNatClampNeg)).toNatClampNeg)), .long l14] (y_sl m1 97 ((l4 + s0).toNatClampNeg) u1) (fun v2 m2 => ∃ u2, v2 = some (Value.long u2) ∧ (x_in (l4 + (m1.1 90 l10.toNatClampNeg)) 3002 = true ∧ yP (xg xs) (d + 1) 390 571 [(0, .ref 58), (1, .int l1), (3, .int l3), (4, .int l4), (5, .long l5), (7, .long l7), (9, .int l9), (13, .int l13)] [] (y_sl m2 97 ((l4 + (m1.1 90 l10.toNatClampNeg)).toNatClampNeg) u2) Q)))))))))))))) : yP (xg xs) (d + 1) 390 497 [(0, .ref 58), (1, .int l1), (3, .int l3), (4, .int l4), (5, .long l5), (7, .long l7), (9, .int l9), (10, .int l10), (13, .int l13), (14, .long l14)] [.int s0] m Q := by
  refine y_st rfl rfl rfl rfl rfl (fun _ _ => rfl) ?_
  refine y_st rfl rfl rfl rfl rfl (fun _ _ => rfl) ?_
  refine y_gf rfl rfl rfl rfl rfl ?_
  refine y_st rfl rfl rfl rfl rfl (fun _ _ => rfl) ?_
  refine y_st rfl rfl rfl rfl rfl (fun _ _ => rfl) ?_
  refine y_st rfl rfl rfl rfl rfl (fun _ _ => rfl) ?_
  refine y_st rfl rfl rfl rfl rfl (fun _ _ => rfl) ?_
  refine y_gf rfl rfl rfl rfl rfl ?_
  refine y_st rfl rfl rfl rfl rfl (fun _ _ => rfl) ?_
  refine y_st rfl rfl rfl rfl rfl (fun _ _ => rfl) ?_
  refine y_st rfl rfl rfl rfl rfl (fun _ _ => rfl) ?_
  show yP (xg xs) (d + 1) 390 517 [(16, .int s0), (0, .ref 58), (1, .int l1), (3, .int l3), (4, .int l4), (5, .long l5), (7, .long l7), (9, .int l9), (10, .int l10), (13, .int l13), (14, .long l14)] [.int (l4 + s0), .ref 97, .int (l4 + s0), .ref 97] m Q
  refine y_lald rfl rfl rfl (H.1) ?_
  replace H := H.2
  refine y_st rfl rfl rfl rfl rfl (fun _ _ => rfl) ?_
  show yP (xg xs) (d + 1) 390 520 [(16, .int s0), (0, .ref 58), (1, .int l1), (3, .int l3), (4, .int l4), (5, .long l5), (7, .long l7), (9, .int l9), (10, .int l10), (13, .int l13), (14, .long l14)] [.long l14, .long (m.2 97 ((l4 + s0).toNatClampNeg)), .int (l4 + s0), .ref 97] m Q
  refine y_call rfl rfl rfl rfl rfl (Nat.le_of_ble_eq_true rfl) (Nat.le_of_ble_eq_true rfl) rfl (by decide) H (fun v1 m1 H => ?_)
  obtain ⟨u1, rfl, H⟩ := H
  show yP (xg xs) (d + 1) 390 523 [(16, .int s0), (0, .ref 58), (1, .int l1), (3, .int l3), (4, .int l4), (5, .long l5), (7, .long l7), (9, .int l9), (10, .int l10), (13, .int l13), (14, .long l14)] [.long u1, .int (l4 + s0), .ref 97] m1 Q
  refine y_last rfl rfl rfl (H.1) ?_
  replace H := H.2
  refine y_st rfl rfl rfl rfl rfl (fun _ _ => rfl) ?_
  refine y_gf rfl rfl rfl rfl rfl ?_
  refine y_st rfl rfl rfl rfl rfl (fun _ _ => rfl) ?_
  show yP (xg xs) (d + 1) 390 530 [(16, .int s0), (0, .ref 58), (1, .int l1), (3, .int l3), (4, .int l4), (5, .long l5), (7, .long l7), (9, .int l9), (10, .int l10), (13, .int l13), (14, .long l14)] [.int l10, .ref 89] (y_sl m1 97 ((l4 + s0).toNatClampNeg) u1) Q
  refine y_iald rfl rfl rfl (H.1) ?_
  replace H := H.2
  refine y_st rfl rfl rfl rfl rfl (fun _ _ => rfl) ?_
  show yP (xg xs) (d + 1) 390 533 [(16, .int s0), (0, .ref 58), (1, .int l1), (3, .int l3), (4, .int l4), (5, .long l5), (7, .long l7), (9, .int l9), (10, .int l10), (13, .int l13), (14, .long l14)] [.int (11 : Int32), .int (m1.1 89 l10.toNatClampNeg)] (y_sl m1 97 ((l4 + s0).toNatClampNeg) u1) Q
  refine y_ine (t := 571) rfl rfl rfl (fun h => ?_) (fun h => ?_)
  · replace H := H.1 h; clear h
    show yP (xg xs) (d + 1) 390 571 [(16, .int s0), (0, .ref 58), (1, .int l1), (3, .int l3), (4, .int l4), (5, .long l5), (7, .long l7), (9, .int l9), (10, .int l10), (13, .int l13), (14, .long l14)] [] (y_sl m1 97 ((l4 + s0).toNatClampNeg) u1) Q
    refine y_headS (l2 := [(0, .ref 58), (1, .int l1), (3, .int l3), (4, .int l4), (5, .long l5), (7, .long l7), (9, .int l9), (13, .int l13)]) [1, 2, 3, 4, 5, 6, 7, 9] [0, 1, 3, 4, 5, 7, 9, 13] [16, 0, 1, 3, 4, 5, 7, 9, 10, 13, 14] rfl rfl (by decide) rfl (by decide) ?_
    exact H
  · replace H := H.2 h; clear h
    refine y_st rfl rfl rfl rfl rfl (fun _ _ => rfl) ?_
    refine y_gf rfl rfl rfl rfl rfl ?_
    refine y_st rfl rfl rfl rfl rfl (fun _ _ => rfl) ?_
    refine y_st rfl rfl rfl rfl rfl (fun _ _ => rfl) ?_
    refine y_gf rfl rfl rfl rfl rfl ?_
    refine y_st rfl rfl rfl rfl rfl (fun _ _ => rfl) ?_
    show yP (xg xs) (d + 1) 390 548 [(16, .int s0), (0, .ref 58), (1, .int l1), (3, .int l3), (4, .int l4), (5, .long l5), (7, .long l7), (9, .int l9), (10, .int l10), (13, .int l13), (14, .long l14)] [.int l10, .ref 90, .int l4, .ref 97] (y_sl m1 97 ((l4 + s0).toNatClampNeg) u1) Q
    refine y_iald rfl rfl rfl (H.1) ?_
    replace H := H.2
    refine y_st rfl rfl rfl rfl rfl (fun _ _ => rfl) ?_
    refine y_st rfl rfl rfl rfl rfl (fun _ _ => rfl) ?_
    refine y_gf rfl rfl rfl rfl rfl ?_
    refine y_st rfl rfl rfl rfl rfl (fun _ _ => rfl) ?_
    refine y_st rfl rfl rfl rfl rfl (fun _ _ => rfl) ?_
    refine y_gf rfl rfl rfl rfl rfl ?_
    refine y_st rfl rfl rfl rfl rfl (fun _ _ => rfl) ?_
    show yP (xg xs) (d + 1) 390 562 [(16, .int s0), (0, .ref 58), (1, .int l1), (3, .int l3), (4, .int l4), (5, .long l5), (7, .long l7), (9, .int l9), (10, .int l10), (13, .int l13), (14, .long l14)] [.int l10, .ref 90, .int l4, .ref 97, .int (l4 + (m1.1 90 l10.toNatClampNeg)), .ref 97] (y_sl m1 97 ((l4 + s0).toNatClampNeg) u1) Q
    refine y_iald rfl rfl rfl (H.1) ?_
    replace H := H.2
    refine y_st rfl rfl rfl rfl rfl (fun _ _ => rfl) ?_
    show yP (xg xs) (d + 1) 390 564 [(16, .int s0), (0, .ref 58), (1, .int l1), (3, .int l3), (4, .int l4), (5, .long l5), (7, .long l7), (9, .int l9), (10, .int l10), (13, .int l13), (14, .long l14)] [.int (l4 + (m1.1 90 l10.toNatClampNeg)), .ref 97, .int (l4 + (m1.1 90 l10.toNatClampNeg)), .ref 97] (y_sl m1 97 ((l4 + s0).toNatClampNeg) u1) Q
    refine y_lald rfl rfl rfl (H.1) ?_
    replace H := H.2
    refine y_st rfl rfl rfl rfl rfl (fun _ _ => rfl) ?_
    show yP (xg xs) (d + 1) 390 567 [(16, .int s0), (0, .ref 58), (1, .int l1), (3, .int l3), (4, .int l4), (5, .long l5), (7, .long l7), (9, .int l9), (10, .int l10), (13, .int l13), (14, .long l14)] [.long l14, .long ((y_sl m1 97 ((l4 + s0).toNatClampNeg) u1).2 97 ((l4 + (m1.1 90 l10.toNatClampNeg)).toNatClampNeg)), .int (l4 + (m1.1 90 l10.toNatClampNeg)), .ref 97] (y_sl m1 97 ((l4 + s0).toNatClampNeg) u1) Q
    refine y_call rfl rfl rfl rfl rfl (Nat.le_of_ble_eq_true rfl) (Nat.le_of_ble_eq_true rfl) rfl (by decide) H (fun v2 m2 H => ?_)
    obtain ⟨u2, rfl, H⟩ := H
    show yP (xg xs) (d + 1) 390 570 [(16, .int s0), (0, .ref 58), (1, .int l1), (3, .int l3), (4, .int l4), (5, .long l5), (7, .long l7), (9, .int l9), (10, .int l10), (13, .int l13), (14, .long l14)] [.long u2, .int (l4 + (m1.1 90 l10.toNatClampNeg)), .ref 97] m2 Q
    refine y_last rfl rfl rfl (H.1) ?_
    replace H := H.2
    show yP (xg xs) (d + 1) 390 571 [(16, .int s0), (0, .ref 58), (1, .int l1), (3, .int l3), (4, .int l4), (5, .long l5), (7, .long l7), (9, .int l9), (10, .int l10), (13, .int l13), (14, .long l14)] [] (y_sl m2 97 ((l4 + (m1.1 90 l10.toNatClampNeg)).toNatClampNeg) u2) Q
    refine y_headS (l2 := [(0, .ref 58), (1, .int l1), (3, .int l3), (4, .int l4), (5, .long l5), (7, .long l7), (9, .int l9), (13, .int l13)]) [1, 2, 3, 4, 5, 6, 7, 9] [0, 1, 3, 4, 5, 7, 9, 13] [16, 0, 1, 3, 4, 5, 7, 9, 10, 13, 14] rfl rfl (by decide) rfl (by decide) ?_
    exact H
set_option maxRecDepth 20000 in
/-- CodeMakerModel.goThrough from 571 on -/
theorem w390_571 (xs : List Int32) (d : Nat) (l1 : Int32) (l3 : Int32) (l4 : Int32) (l5 : Int64) (l7 : Int64) (l9 : Int32) (l13 : Int32) (m : yM) (Q : Option Value → yM → Prop) (H : yP (xg xs) (d + 1) 390 59 [(0, .ref 58), (1, .int l1), (3, .int l3), (4, .int l4), (5, .long l5), (7, .long l7), (9, .int (l9 + l13))] [] m Q) : yP (xg xs) (d + 1) 390 571 [(0, .ref 58), (1, .int l1), (3, .int l3), (4, .int l4), (5, .long l5), (7, .long l7), (9, .int l9), (13, .int l13)] [] m Q := by
  refine y_st rfl rfl rfl rfl rfl (fun _ _ => rfl) ?_
  refine y_st rfl rfl rfl rfl rfl (fun _ _ => rfl) ?_
  refine y_st rfl rfl rfl rfl rfl (fun _ _ => rfl) ?_
  refine y_st rfl rfl rfl rfl rfl (fun _ _ => rfl) ?_
  refine y_st rfl rfl rfl rfl rfl (fun _ _ => rfl) ?_
  show yP (xg xs) (d + 1) 390 59 [(9, .int (l9 + l13)), (0, .ref 58), (1, .int l1), (3, .int l3), (4, .int l4), (5, .long l5), (7, .long l7), (13, .int l13)] [] m Q
  refine y_headS (l2 := [(0, .ref 58), (1, .int l1), (3, .int l3), (4, .int l4), (5, .long l5), (7, .long l7), (9, .int (l9 + l13))]) [1, 2, 3, 4, 5, 6, 0] [0, 1, 3, 4, 5, 7, 9] [9, 0, 1, 3, 4, 5, 7, 13] rfl rfl (by decide) rfl (by decide) ?_
  exact H
set_option maxRecDepth 20000 in
/-- CodeMakerModel.cap from 0 on -/
theorem w391_0 (xs : List Int32) (d : Nat) (l0 : Int64) (m : yM) (Q : Option Value → yM → Prop) (H : (((lg_cmp l0 (2000000000 : Int64)) ≤ 0 → Q (some (.long l0)) m) ∧ (¬ (lg_cmp l0 (2000000000 : Int64)) ≤ 0 → Q (some (.long (2000000000 : Int64))) m))) : yP (xg xs) (d + 1) 391 0 [(0, .long l0)] [] m Q := by
  refine y_st rfl rfl rfl rfl rfl (fun _ _ => rfl) ?_
  refine y_st rfl rfl rfl rfl rfl (fun _ _ => rfl) ?_
  refine y_st rfl rfl rfl rfl rfl (fun _ _ => rfl) ?_
  show yP (xg xs) (d + 1) 391 5 [(0, .long l0)] [.int (lg_cmp l0 (2000000000 : Int64))] m Q
  refine y_zle (t := 14) rfl rfl rfl (fun h => ?_) (fun h => ?_)
  · replace H := H.1 h; clear h
    refine y_st rfl rfl rfl rfl rfl (fun _ _ => rfl) ?_
    show yP (xg xs) (d + 1) 391 15 [(0, .long l0)] [.long l0] m Q
    exact y_ret rfl rfl rfl rfl H
  · replace H := H.2 h; clear h
    refine y_st rfl rfl rfl rfl rfl (fun _ _ => rfl) ?_
    refine y_st rfl rfl rfl rfl rfl (fun _ _ => rfl) ?_
    show yP (xg xs) (d + 1) 391 15 [(0, .long l0)] [.long (2000000000 : Int64)] m Q
    exact y_ret rfl rfl rfl rfl H
set_option maxRecDepth 20000 in
/-- CodeMakerModel.greater from 0 on -/
theorem w392_0 (xs : List Int32) (d : Nat) (l0 : Int64) (l2 : Int64) (m : yM) (Q : Option Value → yM → Prop) (H : (((lg_cmp l0 l2) ≤ 0 → Q (some (.long l2)) m) ∧ (¬ (lg_cmp l0 l2) ≤ 0 → Q (some (.long l0)) m))) : yP (xg xs) (d + 1) 392 0 [(0, .long l0), (2, .long l2)] [] m Q := by
  refine y_st rfl rfl rfl rfl rfl (fun _ _ => rfl) ?_
  refine y_st rfl rfl rfl rfl rfl (fun _ _ => rfl) ?_
  refine y_st rfl rfl rfl rfl rfl (fun _ _ => rfl) ?_
  show yP (xg xs) (d + 1) 392 3 [(0, .long l0), (2, .long l2)] [.int (lg_cmp l0 l2)] m Q
  refine y_zle (t := 10) rfl rfl rfl (fun h => ?_) (fun h => ?_)
  · replace H := H.1 h; clear h
    refine y_st rfl rfl rfl rfl rfl (fun _ _ => rfl) ?_
    show yP (xg xs) (d + 1) 392 11 [(0, .long l0), (2, .long l2)] [.long l2] m Q
    exact y_ret rfl rfl rfl rfl H
  · replace H := H.2 h; clear h
    refine y_st rfl rfl rfl rfl rfl (fun _ _ => rfl) ?_
    refine y_st rfl rfl rfl rfl rfl (fun _ _ => rfl) ?_
    show yP (xg xs) (d + 1) 392 11 [(0, .long l0), (2, .long l2)] [.long l0] m Q
    exact y_ret rfl rfl rfl rfl H
set_option maxRecDepth 20000 in
/-- CodeMakerModel.fill from 0 on -/
theorem w393_0 (xs : List Int32) (d : Nat) (l1 : Int32) (l2 : Int32) (m : yM) (Q : Option Value → yM → Prop) (H : (x_in l1 401 = true ∧ yP (xg xs) (d + 1) 393 7 [(0, .ref 58), (1, .int l1), (2, .int l2), (3, .int (m.1 73 l1.toNatClampNeg))] [] m Q)) : yP (xg xs) (d + 1) 393 0 [(0, .ref 58), (1, .int l1), (2, .int l2)] [] m Q := by
  refine y_st rfl rfl rfl rfl rfl (fun _ _ => rfl) ?_
  refine y_gf rfl rfl rfl rfl rfl ?_
  refine y_st rfl rfl rfl rfl rfl (fun _ _ => rfl) ?_
  show yP (xg xs) (d + 1) 393 5 [(0, .ref 58), (1, .int l1), (2, .int l2)] [.int l1, .ref 73] m Q
  refine y_iald rfl rfl rfl (H.1) ?_
  replace H := H.2
  refine y_st rfl rfl rfl rfl rfl (fun _ _ => rfl) ?_
  show yP (xg xs) (d + 1) 393 7 [(3, .int (m.1 73 l1.toNatClampNeg)), (0, .ref 58), (1, .int l1), (2, .int l2)] [] m Q
  refine y_headS (l2 := [(0, .ref 58), (1, .int l1), (2, .int l2), (3, .int (m.1 73 l1.toNatClampNeg))]) [1, 2, 3, 0] [0, 1, 2, 3] [3, 0, 1, 2] rfl rfl (by decide) rfl (by decide) ?_
  exact H
set_option maxRecDepth 20000 in
/-- CodeMakerModel.fill from 7 on -/
theorem w393_7 (xs : List Int32) (d : Nat) (l1 : Int32) (l2 : Int32) (l3 : Int32) (m : yM) (Q : Option Value → yM → Prop) (H : (x_in (l1 + (1 : Int32)) 401 = true ∧ (((m.1 73 ((l1 + (1 : Int32)).toNatClampNeg)) ≤ l3 → Q none m) ∧ (¬ (m.1 73 ((l1 + (1 : Int32)).toNatClampNeg)) ≤ l3 → (x_in l3 4700 = true ∧ ((¬ (m.1 76 l3.toNatClampNeg) = (2 : Int32) → yP (xg xs) (d + 1) 393 67 [(0, .ref 58), (1, .int l1), (2, .int l2), (3, .int l3), (4, .int (0 : Int32))] [] m Q) ∧ ((m.1 76 l3.toNatClampNeg) = (2 : Int32) → (x_in l3 4700 = true ∧ (((m.1 77 l3.toNatClampNeg) < (100 : Int32) → yP (xg xs) (d + 1) 393 115 [(0, .ref 58), (1, .int l1), (2, .int l2), (3, .int l3)] [] m Q) ∧ (¬ (m.1 77 l3.toNatClampNeg) < (100 : Int32) → (x_in l3 4700 = true ∧ (x_in l3 4700 = true ∧ (yC (xg xs) d 393 [.ref 58, .int ((m.1 77 l3.toNatClampNeg) - (100 : Int32)), .int (l2 + (m.1 80 l3.toNatClampNeg))] m (fun v1 m1 => v1 = none ∧ yP (xg xs) (d + 1) 393 115 [(0, .ref 58), (1, .int l1), (2, .int l2), (3, .int l3)] [] m1 Q)))))))))))))) : yP (xg xs) (d + 1) 393 7 [(0, .ref 58), (1, .int l1), (2, .int l2), (3, .int l3)] [] m Q := by
  refine y_st rfl rfl rfl rfl rfl (fun _ _ => rfl) ?_
  refine y_st rfl rfl rfl rfl rfl (fun _ _ => rfl) ?_
  refine y_gf rfl rfl rfl rfl rfl ?_
  refine y_st rfl rfl rfl rfl rfl (fun _ _ => rfl) ?_
  refine y_st rfl rfl rfl rfl rfl (fun _ _ => rfl) ?_
  refine y_st rfl rfl rfl rfl rfl (fun _ _ => rfl) ?_
  show yP (xg xs) (d + 1) 393 15 [(0, .ref 58), (1, .int l1), (2, .int l2), (3, .int l3)] [.int (l1 + (1 : Int32)), .ref 73, .int l3] m Q
  refine y_iald rfl rfl rfl (H.1) ?_
  replace H := H.2
  show yP (xg xs) (d + 1) 393 16 [(0, .ref 58), (1, .int l1), (2, .int l2), (3, .int l3)] [.int (m.1 73 ((l1 + (1 : Int32)).toNatClampNeg)), .int l3] m Q
  refine y_ige (t := 121) rfl rfl rfl (fun h => ?_) (fun h => ?_)
  · replace H := H.1 h; clear h
    show yP (xg xs) (d + 1) 393 121 [(0, .ref 58), (1, .int l1), (2, .int l2), (3, .int l3)] [] m Q
    exact y_ret rfl rfl rfl rfl H
  · replace H := H.2 h; clear h
    refine y_st rfl rfl rfl rfl rfl (fun _ _ => rfl) ?_
    refine y_gf rfl rfl rfl rfl rfl ?_
    refine y_st rfl rfl rfl rfl rfl (fun _ _ => rfl) ?_
    show yP (xg xs) (d + 1) 393 24 [(0, .ref 58), (1, .int l1), (2, .int l2), (3, .int l3)] [.int l3, .ref 76] m Q
    refine y_iald rfl rfl rfl (H.1) ?_
    replace H := H.2
    refine y_st rfl rfl rfl rfl rfl (fun _ _ => rfl) ?_
    show yP (xg xs) (d + 1) 393 26 [(0, .ref 58), (1, .int l1), (2, .int l2), (3, .int l3)] [.int (2 : Int32), .int (m.1 76 l3.toNatClampNeg)] m Q
    refine y_ine (t := 64) rfl rfl rfl (fun h => ?_) (fun h => ?_)
    · replace H := H.1 h; clear h
      refine y_st rfl rfl rfl rfl rfl (fun _ _ => rfl) ?_
      refine y_st rfl rfl rfl rfl rfl (fun _ _ => rfl) ?_
      show yP (xg xs) (d + 1) 393 67 [(4, .int (0 : Int32)), (0, .ref 58), (1, .int l1), (2, .int l2), (3, .int l3)] [] m Q
      refine y_headS (l2 := [(0, .ref 58), (1, .int l1), (2, .int l2), (3, .int l3), (4, .int (0 : Int32))]) [1, 2, 3, 4, 0] [0, 1, 2, 3, 4] [4, 0, 1, 2, 3] rfl rfl (by decide) rfl (by decide) ?_
      exact H
    · replace H := H.2 h; clear h
      refine y_st rfl rfl rfl rfl rfl (fun _ _ => rfl) ?_
      refine y_gf rfl rfl rfl rfl rfl ?_
      refine y_st rfl rfl rfl rfl rfl (fun _ _ => rfl) ?_
      show yP (xg xs) (d + 1) 393 34 [(0, .ref 58), (1, .int l1), (2, .int l2), (3, .int l3)] [.int l3, .ref 77] m Q
      refine y_iald rfl rfl rfl (H.1) ?_
      replace H := H.2
      refine y_st rfl rfl rfl rfl rfl (fun _ _ => rfl) ?_
      show yP (xg xs) (d + 1) 393 37 [(0, .ref 58), (1, .int l1), (2, .int l2), (3, .int l3)] [.int (100 : Int32), .int (m.1 77 l3.toNatClampNeg)] m Q
      refine y_ilt (t := 115) rfl rfl rfl (fun h => ?_) (fun h => ?_)
      · replace H := H.1 h; clear h
        show yP (xg xs) (d + 1) 393 115 [(0, .ref 58), (1, .int l1), (2, .int l2), (3, .int l3)] [] m Q
        exact H
      · replace H := H.2 h; clear h
        refine y_st rfl rfl rfl rfl rfl (fun _ _ => rfl) ?_
        refine y_st rfl rfl rfl rfl rfl (fun _ _ => rfl) ?_
        refine y_gf rfl rfl rfl rfl rfl ?_
        refine y_st rfl rfl rfl rfl rfl (fun _ _ => rfl) ?_
        show yP (xg xs) (d + 1) 393 46 [(0, .ref 58), (1, .int l1), (2, .int l2), (3, .int l3)] [.int l3, .ref 77, .ref 58] m Q
        refine y_iald rfl rfl rfl (H.1) ?_
        replace H := H.2
        refine y_st rfl rfl rfl rfl rfl (fun _ _ => rfl) ?_
        refine y_st rfl rfl rfl rfl rfl (fun _ _ => rfl) ?_
        refine y_st rfl rfl rfl rfl rfl (fun _ _ => rfl) ?_
        refine y_st rfl rfl rfl rfl rfl (fun _ _ => rfl) ?_
        refine y_gf rfl rfl rfl rfl rfl ?_
        refine y_st rfl rfl rfl rfl rfl (fun _ _ => rfl) ?_
        show yP (xg xs) (d + 1) 393 56 [(0, .ref 58), (1, .int l1), (2, .int l2), (3, .int l3)] [.int l3, .ref 80, .int l2, .int ((m.1 77 l3.toNatClampNeg) - (100 : Int32)), .ref 58] m Q
        refine y_iald rfl rfl rfl (H.1) ?_
        replace H := H.2
        refine y_st rfl rfl rfl rfl rfl (fun _ _ => rfl) ?_
        show yP (xg xs) (d + 1) 393 58 [(0, .ref 58), (1, .int l1), (2, .int l2), (3, .int l3)] [.int (l2 + (m.1 80 l3.toNatClampNeg)), .int ((m.1 77 l3.toNatClampNeg) - (100 : Int32)), .ref 58] m Q
        refine y_call rfl rfl rfl rfl rfl (Nat.le_of_ble_eq_true rfl) (Nat.le_of_ble_eq_true rfl) rfl (by decide) H (fun v1 m1 H => ?_)
        obtain ⟨rfl, H⟩ := H
        refine y_st rfl rfl rfl rfl rfl (fun _ _ => rfl) ?_
        show yP (xg xs) (d + 1) 393 115 [(0, .ref 58), (1, .int l1), (2, .int l2), (3, .int l3)] [] m1 Q
        exact H
set_option maxRecDepth 20000 in
/-- CodeMakerModel.fill from 67 on -/
theorem w393_67 (xs : List Int32) (d : Nat) (l1 : Int32) (l2 : Int32) (l3 : Int32) (l4 : Int32) (m : yM) (Q : Option Value → yM → Prop) (H : (x_in l3 4700 = true ∧ (((m.1 79 l3.toNatClampNeg) ≤ l4 → yP (xg xs) (d + 1) 393 115 [(0, .ref 58), (1, .int l1), (2, .int l2), (3, .int l3)] [] m Q) ∧ (¬ (m.1 79 l3.toNatClampNeg) ≤ l4 → (x_in l3 4700 = true ∧ (((m.1 83 l3.toNatClampNeg) = 0 → yP (xg xs) (d + 1) 393 115 [(0, .ref 58), (1, .int l1), (2, .int l2), (3, .int l3)] [] m Q) ∧ (¬ (m.1 83 l3.toNatClampNeg) = 0 → (x_in l3 4700 = true ∧ (x_in l3 4700 = true ∧ (x_in ((l2 + (m.1 80 l3.toNatClampNeg)) + l4) 8192 = true ∧ yP (xg xs) (d + 1) 393 67 [(0, .ref 58), (1, .int l1), (2, .int l2), (3, .int l3), (4, .int (l4 + (1 : Int32)))] [] (y_si m 98 (((l2 + (m.1 80 l3.toNatClampNeg)) + l4).toNatClampNeg) (m.1 83 l3.toNatClampNeg)) Q)))))))))) : yP (xg xs) (d + 1) 393 67 [(0, .ref 58), (1, .int l1), (2, .int l2), (3, .int l3), (4, .int l4)] [] m Q := by
  refine y_st rfl rfl rfl rfl rfl (fun _ _ => rfl) ?_
  refine y_st rfl rfl rfl rfl rfl (fun _ _ => rfl) ?_
  refine y_gf rfl rfl rfl rfl rfl ?_
  refine y_st rfl rfl rfl rfl rfl (fun _ _ => rfl) ?_
  show yP (xg xs) (d + 1) 393 74 [(0, .ref 58), (1, .int l1), (2, .int l2), (3, .int l3), (4, .int l4)] [.int l3, .ref 79, .int l4] m Q
  refine y_iald rfl rfl rfl (H.1) ?_
  replace H := H.2
  show yP (xg xs) (d + 1) 393 75 [(0, .ref 58), (1, .int l1), (2, .int l2), (3, .int l3), (4, .int l4)] [.int (m.1 79 l3.toNatClampNeg), .int l4] m Q
  refine y_ige (t := 115) rfl rfl rfl (fun h => ?_) (fun h => ?_)
  · replace H := H.1 h; clear h
    show yP (xg xs) (d + 1) 393 115 [(0, .ref 58), (1, .int l1), (2, .int l2), (3, .int l3), (4, .int l4)] [] m Q
    refine y_headS (l2 := [(0, .ref 58), (1, .int l1), (2, .int l2), (3, .int l3)]) [0, 1, 2, 3] [0, 1, 2, 3] [0, 1, 2, 3, 4] rfl rfl (by decide) rfl (by decide) ?_
    exact H
  · replace H := H.2 h; clear h
    refine y_st rfl rfl rfl rfl rfl (fun _ _ => rfl) ?_
    refine y_gf rfl rfl rfl rfl rfl ?_
    refine y_st rfl rfl rfl rfl rfl (fun _ _ => rfl) ?_
    show yP (xg xs) (d + 1) 393 83 [(0, .ref 58), (1, .int l1), (2, .int l2), (3, .int l3), (4, .int l4)] [.int l3, .ref 83] m Q
    refine y_iald rfl rfl rfl (H.1) ?_
    replace H := H.2
    show yP (xg xs) (d + 1) 393 84 [(0, .ref 58), (1, .int l1), (2, .int l2), (3, .int l3), (4, .int l4)] [.int (m.1 83 l3.toNatClampNeg)] m Q
    refine y_zeq (t := 115) rfl rfl rfl (fun h => ?_) (fun h => ?_)
    · replace H := H.1 h; clear h
      show yP (xg xs) (d + 1) 393 115 [(0, .ref 58), (1, .int l1), (2, .int l2), (3, .int l3), (4, .int l4)] [] m Q
      refine y_headS (l2 := [(0, .ref 58), (1, .int l1), (2, .int l2), (3, .int l3)]) [0, 1, 2, 3] [0, 1, 2, 3] [0, 1, 2, 3, 4] rfl rfl (by decide) rfl (by decide) ?_
      exact H
    · replace H := H.2 h; clear h
      refine y_st rfl rfl rfl rfl rfl (fun _ _ => rfl) ?_
      refine y_gf rfl rfl rfl rfl rfl ?_
      refine y_st rfl rfl rfl rfl rfl (fun _ _ => rfl) ?_
      refine y_st rfl rfl rfl rfl rfl (fun _ _ => rfl) ?_
      refine y_gf rfl rfl rfl rfl rfl ?_
      refine y_st rfl rfl rfl rfl rfl (fun _ _ => rfl) ?_
      show yP (xg xs) (d + 1) 393 97 [(0, .ref 58), (1, .int l1), (2, .int l2), (3, .int l3), (4, .int l4)] [.int l3, .ref 80, .int l2, .ref 98] m Q
      refine y_iald rfl rfl rfl (H.1) ?_
      replace H := H.2
      refine y_st rfl rfl rfl rfl rfl (fun _ _ => rfl) ?_
      refine y_st rfl rfl rfl rfl rfl (fun _ _ => rfl) ?_
      refine y_st rfl rfl rfl rfl rfl (fun _ _ => rfl) ?_
      refine y_st rfl rfl rfl rfl rfl (fun _ _ => rfl) ?_
      refine y_gf rfl rfl rfl rfl rfl ?_
      refine y_st rfl rfl rfl rfl rfl (fun _ _ => rfl) ?_
      show yP (xg xs) (d + 1) 393 107 [(0, .ref 58), (1, .int l1), (2, .int l2), (3, .int l3), (4, .int l4)] [.int l3, .ref 83, .int ((l2 + (m.1 80 l3.toNatClampNeg)) + l4), .ref 98] m Q
      refine y_iald rfl rfl rfl (H.1) ?_
      replace H := H.2
      show yP (xg xs) (d + 1) 393 108 [(0, .ref 58), (1, .int l1), (2, .int l2), (3, .int l3), (4, .int l4)] [.int (m.1 83 l3.toNatClampNeg), .int ((l2 + (m.1 80 l3.toNatClampNeg)) + l4), .ref 98] m Q
      refine y_iast rfl rfl rfl (H.1) ?_
      replace H := H.2
      refine y_st rfl rfl rfl rfl rfl (fun _ _ => rfl) ?_
      refine y_st rfl rfl rfl rfl rfl (fun _ _ => rfl) ?_
      show yP (xg xs) (d + 1) 393 67 [(4, .int (l4 + (1 : Int32))), (0, .ref 58), (1, .int l1), (2, .int l2), (3, .int l3)] [] (y_si m 98 (((l2 + (m.1 80 l3.toNatClampNeg)) + l4).toNatClampNeg) (m.1 83 l3.toNatClampNeg)) Q
      refine y_headS (l2 := [(0, .ref 58), (1, .int l1), (2, .int l2), (3, .int l3), (4, .int (l4 + (1 : Int32)))]) [1, 2, 3, 4, 0] [0, 1, 2, 3, 4] [4, 0, 1, 2, 3] rfl rfl (by decide) rfl (by decide) ?_
      exact H
set_option maxRecDepth 20000 in
/-- CodeMakerModel.fill from 115 on -/
theorem w393_115 (xs : List Int32) (d : Nat) (l1 : Int32) (l2 : Int32) (l3 : Int32) (m : yM) (Q : Option Value → yM → Prop) (H : yP (xg xs) (d + 1) 393 7 [(0, .ref 58), (1, .int l1), (2, .int l2), (3, .int (l3 + (1 : Int32)))] [] m Q) : yP (xg xs) (d + 1) 393 115 [(0, .ref 58), (1, .int l1), (2, .int l2), (3, .int l3)] [] m Q := by
  refine y_st rfl rfl rfl rfl rfl (fun _ _ => rfl) ?_
  refine y_st rfl rfl rfl rfl rfl (fun _ _ => rfl) ?_
  show yP (xg xs) (d + 1) 393 7 [(3, .int (l3 + (1 : Int32))), (0, .ref 58), (1, .int l1), (2, .int l2)] [] m Q
  refine y_headS (l2 := [(0, .ref 58), (1, .int l1), (2, .int l2), (3, .int (l3 + (1 : Int32)))]) [1, 2, 3, 0] [0, 1, 2, 3] [3, 0, 1, 2] rfl rfl (by decide) rfl (by decide) ?_
  exact H
