/-! Strings 3 to 12: laid by wip/gen/small20.py -/
theorem xl_3 : xsb_3.length = 271 := by decide +kernel
/-- letters of the alphabet are what they are as chars and bytes -/
theorem ch_3 : ∀ i, i < 271 → ((xsb_3.getD i 0 &&& 255).toUInt32 % 65536).toInt32 = xsb_3.getD i 0 ∧ (xsb_3.getD i 0).toInt8.toInt32 = xsb_3.getD i 0 := by decide +kernel
theorem cc_3 {i : Nat} (h : i < 271) : narrow .char (.int (xsb_3.getD i 0)) = .int (xsb_3.getD i 0) := by rw [← (ch_3 i h).1]; exact pk_nc _
set_option maxRecDepth 20000 in
/-- String.coder of constant 3 -/
theorem c23_3 (xs : List Int32) (d : Nat) (m : yM)  : yC (xg xs) d 23 [.retAddr 23] m (fun r m' => r = some (.int 0) ∧ m' = m) := by
  refine y_st rfl rfl rfl rfl rfl (fun _ _ => rfl) ?_
  show yP (xg xs) d 23 3 [(0, .retAddr 23)] [.int (1 : Int32)] m _
  refine y_zeq (t := 13) rfl rfl rfl (fun h3 => ?_) (fun h3 => ?_)
  · exact absurd h3 (by decide)
  · refine y_st rfl rfl rfl rfl rfl (fun _ _ => rfl) ?_
    refine y_st rfl rfl rfl rfl rfl (fun _ _ => rfl) ?_
    refine y_st rfl rfl rfl rfl rfl (fun _ _ => rfl) ?_
    show yP (xg xs) d 23 14 [(0, .retAddr 23)] [.int (0 : Int32)] m _
    exact y_ret rfl rfl rfl rfl (⟨rfl, rfl⟩)
set_option maxRecDepth 20000 in
/-- String.length of constant 3 -/
theorem c22_3 (xs : List Int32) (d : Nat) (m : yM)  : yC (xg xs) (d + 1) 22 [.retAddr 23] m (fun r m' => r = some (.int 271) ∧ m' = m) := by
  refine y_st rfl rfl rfl rfl rfl (fun _ _ => rfl) ?_
  refine y_st rfl rfl rfl rfl rfl (fun _ _ => rfl) ?_
  refine y_st rfl rfl rfl rfl rfl (fun _ _ => rfl) ?_
  refine y_st rfl rfl rfl rfl rfl (fun _ _ => rfl) ?_
  show yP (xg xs) (d + 1) 22 6 [(0, .retAddr 23)] [.retAddr 23, .int (271 : Int32)] m _
  refine y_call rfl rfl rfl rfl rfl (Nat.le_of_ble_eq_true rfl) (Nat.le_of_ble_eq_true rfl) rfl (by decide) (c23_3 xs d m) (fun v1 m1 q1 => ?_)
  obtain ⟨rfl, e1⟩ := q1; rw [e1]; clear e1
  refine y_st rfl rfl rfl rfl rfl (fun _ _ => rfl) ?_
  show yP (xg xs) (d + 1) 22 10 [(0, .retAddr 23)] [.int ((271 : Int32) >>> ((0 : Int32) &&& 31))] m _
  exact y_iret rfl rfl rfl (⟨congrArg (fun z => some (Value.int z)) (by decide), rfl⟩)
set_option maxRecDepth 20000 in
/-- String.isLatin1 of constant 3 -/
theorem c25_3 (xs : List Int32) (d : Nat) (m : yM)  : yC (xg xs) d 25 [.retAddr 23] m (fun r m' => r = some (.int 1) ∧ m' = m) := by
  refine y_st rfl rfl rfl rfl rfl (fun _ _ => rfl) ?_
  show yP (xg xs) d 25 3 [(0, .retAddr 23)] [.int (1 : Int32)] m _
  refine y_zeq (t := 17) rfl rfl rfl (fun h3 => ?_) (fun h3 => ?_)
  · exact absurd h3 (by decide)
  · refine y_st rfl rfl rfl rfl rfl (fun _ _ => rfl) ?_
    refine y_st rfl rfl rfl rfl rfl (fun _ _ => rfl) ?_
    show yP (xg xs) d 25 10 [(0, .retAddr 23)] [.int (0 : Int32)] m _
    refine y_zne (t := 17) rfl rfl rfl (fun h10 => ?_) (fun h10 => ?_)
    · exact absurd h10 (by decide)
    · refine y_st rfl rfl rfl rfl rfl (fun _ _ => rfl) ?_
      refine y_st rfl rfl rfl rfl rfl (fun _ _ => rfl) ?_
      show yP (xg xs) d 25 18 [(0, .retAddr 23)] [.int (1 : Int32)] m _
      exact y_zret rfl rfl rfl (by decide) (⟨rfl, rfl⟩)
set_option maxRecDepth 20000 in
/-- Preconditions.checkIndex -/
theorem c28_3 (xs : List Int32) (d : Nat) (m : yM) (k : Nat) (hk : k < 271) : yC (xg xs) d 28 [.int (nI k), .int (271 : Int32), .retAddr 0] m (fun r m' => r = some (.int (nI k)) ∧ m' = m) := by
  refine y_st rfl rfl rfl rfl rfl (fun _ _ => rfl) ?_
  show yP (xg xs) d 28 1 [(0, .int (nI k)), (1, .int (271 : Int32)), (2, .retAddr 0)] [.int (nI k)] m _
  refine y_zlt (t := 9) rfl rfl rfl (fun h1 => ?_) (fun h1 => ?_)
  · exact absurd h1 (nI_pos (by omega))
  · refine y_st rfl rfl rfl rfl rfl (fun _ _ => rfl) ?_
    refine y_st rfl rfl rfl rfl rfl (fun _ _ => rfl) ?_
    show yP (xg xs) d 28 6 [(0, .int (nI k)), (1, .int (271 : Int32)), (2, .retAddr 0)] [.int (271 : Int32), .int (nI k)] m _
    refine y_ilt (t := 16) rfl rfl rfl (fun h6 => ?_) (fun h6 => ?_)
    · refine y_st rfl rfl rfl rfl rfl (fun _ _ => rfl) ?_
      show yP (xg xs) d 28 17 [(0, .int (nI k)), (1, .int (271 : Int32)), (2, .retAddr 0)] [.int (nI k)] m _
      exact y_iret rfl rfl rfl (⟨rfl, rfl⟩)
    · exact absurd (nI_lt (b := 271) hk (by decide)) h6
set_option maxRecDepth 20000 in
/-- String.checkIndex -/
theorem c27_3 (xs : List Int32) (d : Nat) (m : yM) (k : Nat) (hk : k < 271) : yC (xg xs) (d + 1) 27 [.int (nI k), .int (271 : Int32)] m (fun r m' => r = none ∧ m' = m) := by
  refine y_st rfl rfl rfl rfl rfl (fun _ _ => rfl) ?_
  refine y_st rfl rfl rfl rfl rfl (fun _ _ => rfl) ?_
  refine y_st rfl rfl rfl rfl rfl (fun _ _ => rfl) ?_
  show yP (xg xs) (d + 1) 27 5 [(0, .int (nI k)), (1, .int (271 : Int32))] [.retAddr 0, .int (271 : Int32), .int (nI k)] m _
  refine y_call rfl rfl rfl rfl rfl (Nat.le_of_ble_eq_true rfl) (Nat.le_of_ble_eq_true rfl) rfl (by decide) (c28_3 xs d m k hk) (fun v1 m1 q1 => ?_)
  obtain ⟨rfl, e1⟩ := q1; rw [e1]; clear e1
  refine y_st rfl rfl rfl rfl rfl (fun _ _ => rfl) ?_
  show yP (xg xs) (d + 1) 27 9 [(0, .int (nI k)), (1, .int (271 : Int32))] [] m _
  exact y_ret rfl rfl rfl rfl (⟨rfl, rfl⟩)
set_option maxRecDepth 20000 in
/-- StringLatin1.charAt of constant 3 -/
theorem c26_3 (xs : List Int32) (d : Nat) (m : yM) (k : Nat) (hk : k < 271) : yC (xg xs) (d + 2) 26 [.retAddr 63, .int (nI k)] m (fun r m' => r = some (.int (xsb_3.getD k 0)) ∧ m' = m) := by
  refine y_st rfl rfl rfl rfl rfl (fun _ _ => rfl) ?_
  refine y_st rfl rfl rfl rfl rfl (fun _ _ => rfl) ?_
  refine y_st rfl rfl rfl rfl rfl (fun _ _ => rfl) ?_
  show yP (xg xs) (d + 2) 26 3 [(0, .retAddr 63), (1, .int (nI k))] [.int (271 : Int32), .int (nI k)] m _
  refine y_call rfl rfl rfl rfl rfl (Nat.le_of_ble_eq_true rfl) (Nat.le_of_ble_eq_true rfl) rfl (by decide) (c27_3 xs d m k hk) (fun v1 m1 q1 => ?_)
  obtain ⟨rfl, e1⟩ := q1; rw [e1]; clear e1
  refine y_st rfl rfl rfl rfl rfl (fun _ _ => rfl) ?_
  refine y_st rfl rfl rfl rfl rfl (fun _ _ => rfl) ?_
  show yP (xg xs) (d + 2) 26 8 [(0, .retAddr 63), (1, .int (nI k))] [.int (nI k), .retAddr 63] m _
  refine y_cbald rfl rfl rfl (by rw [xl_3]; exact x_in_nI hk (by decide)) ?_
  refine y_st rfl rfl rfl rfl rfl (fun _ _ => rfl) ?_
  refine y_st rfl rfl rfl rfl rfl (fun _ _ => rfl) ?_
  refine y_st rfl rfl rfl rfl rfl (fun _ _ => rfl) ?_
  show yP (xg xs) (d + 2) 26 14 [(0, .retAddr 63), (1, .int (nI k))] [.int (((((xsb_3).getD (nI k).toNatClampNeg 0) &&& (255 : Int32)).toUInt32 % 65536).toInt32)] m _
  exact y_cret rfl rfl rfl (pk_nc _) (by rw [nI_clamp (by omega), (ch_3 k hk).1]; exact ⟨rfl, rfl⟩)
set_option maxRecDepth 20000 in
/-- String.charAt of constant 3 -/
theorem c24_3 (xs : List Int32) (d : Nat) (m : yM) (k : Nat) (hk : k < 271) : yC (xg xs) (d + 3) 24 [.retAddr 23, .int (nI k)] m (fun r m' => r = some (.int (xsb_3.getD k 0)) ∧ m' = m) := by
  refine y_st rfl rfl rfl rfl rfl (fun _ _ => rfl) ?_
  show yP (xg xs) (d + 3) 24 1 [(0, .retAddr 23), (1, .int (nI k))] [.retAddr 23] m _
  refine y_call rfl rfl rfl rfl rfl (Nat.le_of_ble_eq_true rfl) (Nat.le_of_ble_eq_true rfl) rfl (by decide) (yC.mono (Nat.zero_le _) (fun _ _ z => z) (c25_3 xs 0 m)) (fun v1 m1 q1 => ?_)
  obtain ⟨rfl, e1⟩ := q1; rw [e1]; clear e1
  show yP (xg xs) (d + 3) 24 4 [(0, .retAddr 23), (1, .int (nI k))] [.int (1 : Int32)] m _
  refine y_zeq (t := 16) rfl rfl rfl (fun h4 => ?_) (fun h4 => ?_)
  · exact absurd h4 (by decide)
  · refine y_st rfl rfl rfl rfl rfl (fun _ _ => rfl) ?_
    refine y_st rfl rfl rfl rfl rfl (fun _ _ => rfl) ?_
    refine y_st rfl rfl rfl rfl rfl (fun _ _ => rfl) ?_
    show yP (xg xs) (d + 3) 24 12 [(0, .retAddr 23), (1, .int (nI k))] [.int (nI k), .retAddr 63] m _
    refine y_call rfl rfl rfl rfl rfl (Nat.le_of_ble_eq_true rfl) (Nat.le_of_ble_eq_true rfl) rfl (by decide) (c26_3 xs d m k hk) (fun v2 m2 q2 => ?_)
    obtain ⟨rfl, e2⟩ := q2; rw [e2]; clear e2
    show yP (xg xs) (d + 3) 24 15 [(0, .retAddr 23), (1, .int (nI k))] [.int (xsb_3.getD k 0)] m _
    exact y_cret rfl rfl rfl (cc_3 hk) (⟨rfl, rfl⟩)
theorem xl_4 : xsb_4.length = 17 := by decide +kernel
/-- letters of the alphabet are what they are as chars and bytes -/
theorem ch_4 : ∀ i, i < 17 → ((xsb_4.getD i 0 &&& 255).toUInt32 % 65536).toInt32 = xsb_4.getD i 0 ∧ (xsb_4.getD i 0).toInt8.toInt32 = xsb_4.getD i 0 := by decide +kernel
theorem cc_4 {i : Nat} (h : i < 17) : narrow .char (.int (xsb_4.getD i 0)) = .int (xsb_4.getD i 0) := by rw [← (ch_4 i h).1]; exact pk_nc _
set_option maxRecDepth 20000 in
/-- String.coder of constant 4 -/
theorem c23_4 (xs : List Int32) (d : Nat) (m : yM)  : yC (xg xs) d 23 [.retAddr 24] m (fun r m' => r = some (.int 0) ∧ m' = m) := by
  refine y_st rfl rfl rfl rfl rfl (fun _ _ => rfl) ?_
  show yP (xg xs) d 23 3 [(0, .retAddr 24)] [.int (1 : Int32)] m _
  refine y_zeq (t := 13) rfl rfl rfl (fun h3 => ?_) (fun h3 => ?_)
  · exact absurd h3 (by decide)
  · refine y_st rfl rfl rfl rfl rfl (fun _ _ => rfl) ?_
    refine y_st rfl rfl rfl rfl rfl (fun _ _ => rfl) ?_
    refine y_st rfl rfl rfl rfl rfl (fun _ _ => rfl) ?_
    show yP (xg xs) d 23 14 [(0, .retAddr 24)] [.int (0 : Int32)] m _
    exact y_ret rfl rfl rfl rfl (⟨rfl, rfl⟩)
set_option maxRecDepth 20000 in
/-- String.length of constant 4 -/
theorem c22_4 (xs : List Int32) (d : Nat) (m : yM)  : yC (xg xs) (d + 1) 22 [.retAddr 24] m (fun r m' => r = some (.int 17) ∧ m' = m) := by
  refine y_st rfl rfl rfl rfl rfl (fun _ _ => rfl) ?_
  refine y_st rfl rfl rfl rfl rfl (fun _ _ => rfl) ?_
  refine y_st rfl rfl rfl rfl rfl (fun _ _ => rfl) ?_
  refine y_st rfl rfl rfl rfl rfl (fun _ _ => rfl) ?_
  show yP (xg xs) (d + 1) 22 6 [(0, .retAddr 24)] [.retAddr 24, .int (17 : Int32)] m _
  refine y_call rfl rfl rfl rfl rfl (Nat.le_of_ble_eq_true rfl) (Nat.le_of_ble_eq_true rfl) rfl (by decide) (c23_4 xs d m) (fun v1 m1 q1 => ?_)
  obtain ⟨rfl, e1⟩ := q1; rw [e1]; clear e1
  refine y_st rfl rfl rfl rfl rfl (fun _ _ => rfl) ?_
  show yP (xg xs) (d + 1) 22 10 [(0, .retAddr 24)] [.int ((17 : Int32) >>> ((0 : Int32) &&& 31))] m _
  exact y_iret rfl rfl rfl (⟨congrArg (fun z => some (Value.int z)) (by decide), rfl⟩)
set_option maxRecDepth 20000 in
/-- String.isLatin1 of constant 4 -/
theorem c25_4 (xs : List Int32) (d : Nat) (m : yM)  : yC (xg xs) d 25 [.retAddr 24] m (fun r m' => r = some (.int 1) ∧ m' = m) := by
  refine y_st rfl rfl rfl rfl rfl (fun _ _ => rfl) ?_
  show yP (xg xs) d 25 3 [(0, .retAddr 24)] [.int (1 : Int32)] m _
  refine y_zeq (t := 17) rfl rfl rfl (fun h3 => ?_) (fun h3 => ?_)
  · exact absurd h3 (by decide)
  · refine y_st rfl rfl rfl rfl rfl (fun _ _ => rfl) ?_
    refine y_st rfl rfl rfl rfl rfl (fun _ _ => rfl) ?_
    show yP (xg xs) d 25 10 [(0, .retAddr 24)] [.int (0 : Int32)] m _
    refine y_zne (t := 17) rfl rfl rfl (fun h10 => ?_) (fun h10 => ?_)
    · exact absurd h10 (by decide)
    · refine y_st rfl rfl rfl rfl rfl (fun _ _ => rfl) ?_
      refine y_st rfl rfl rfl rfl rfl (fun _ _ => rfl) ?_
      show yP (xg xs) d 25 18 [(0, .retAddr 24)] [.int (1 : Int32)] m _
      exact y_zret rfl rfl rfl (by decide) (⟨rfl, rfl⟩)
set_option maxRecDepth 20000 in
/-- Preconditions.checkIndex -/
theorem c28_4 (xs : List Int32) (d : Nat) (m : yM) (k : Nat) (hk : k < 17) : yC (xg xs) d 28 [.int (nI k), .int (17 : Int32), .retAddr 0] m (fun r m' => r = some (.int (nI k)) ∧ m' = m) := by
  refine y_st rfl rfl rfl rfl rfl (fun _ _ => rfl) ?_
  show yP (xg xs) d 28 1 [(0, .int (nI k)), (1, .int (17 : Int32)), (2, .retAddr 0)] [.int (nI k)] m _
  refine y_zlt (t := 9) rfl rfl rfl (fun h1 => ?_) (fun h1 => ?_)
  · exact absurd h1 (nI_pos (by omega))
  · refine y_st rfl rfl rfl rfl rfl (fun _ _ => rfl) ?_
    refine y_st rfl rfl rfl rfl rfl (fun _ _ => rfl) ?_
    show yP (xg xs) d 28 6 [(0, .int (nI k)), (1, .int (17 : Int32)), (2, .retAddr 0)] [.int (17 : Int32), .int (nI k)] m _
    refine y_ilt (t := 16) rfl rfl rfl (fun h6 => ?_) (fun h6 => ?_)
    · refine y_st rfl rfl rfl rfl rfl (fun _ _ => rfl) ?_
      show yP (xg xs) d 28 17 [(0, .int (nI k)), (1, .int (17 : Int32)), (2, .retAddr 0)] [.int (nI k)] m _
      exact y_iret rfl rfl rfl (⟨rfl, rfl⟩)
    · exact absurd (nI_lt (b := 17) hk (by decide)) h6
set_option maxRecDepth 20000 in
/-- String.checkIndex -/
theorem c27_4 (xs : List Int32) (d : Nat) (m : yM) (k : Nat) (hk : k < 17) : yC (xg xs) (d + 1) 27 [.int (nI k), .int (17 : Int32)] m (fun r m' => r = none ∧ m' = m) := by
  refine y_st rfl rfl rfl rfl rfl (fun _ _ => rfl) ?_
  refine y_st rfl rfl rfl rfl rfl (fun _ _ => rfl) ?_
  refine y_st rfl rfl rfl rfl rfl (fun _ _ => rfl) ?_
  show yP (xg xs) (d + 1) 27 5 [(0, .int (nI k)), (1, .int (17 : Int32))] [.retAddr 0, .int (17 : Int32), .int (nI k)] m _
  refine y_call rfl rfl rfl rfl rfl (Nat.le_of_ble_eq_true rfl) (Nat.le_of_ble_eq_true rfl) rfl (by decide) (c28_4 xs d m k hk) (fun v1 m1 q1 => ?_)
  obtain ⟨rfl, e1⟩ := q1; rw [e1]; clear e1
  refine y_st rfl rfl rfl rfl rfl (fun _ _ => rfl) ?_
  show yP (xg xs) (d + 1) 27 9 [(0, .int (nI k)), (1, .int (17 : Int32))] [] m _
  exact y_ret rfl rfl rfl rfl (⟨rfl, rfl⟩)
set_option maxRecDepth 20000 in
/-- StringLatin1.charAt of constant 4 -/
theorem c26_4 (xs : List Int32) (d : Nat) (m : yM) (k : Nat) (hk : k < 17) : yC (xg xs) (d + 2) 26 [.retAddr 64, .int (nI k)] m (fun r m' => r = some (.int (xsb_4.getD k 0)) ∧ m' = m) := by
  refine y_st rfl rfl rfl rfl rfl (fun _ _ => rfl) ?_
  refine y_st rfl rfl rfl rfl rfl (fun _ _ => rfl) ?_
  refine y_st rfl rfl rfl rfl rfl (fun _ _ => rfl) ?_
  show yP (xg xs) (d + 2) 26 3 [(0, .retAddr 64), (1, .int (nI k))] [.int (17 : Int32), .int (nI k)] m _
  refine y_call rfl rfl rfl rfl rfl (Nat.le_of_ble_eq_true rfl) (Nat.le_of_ble_eq_true rfl) rfl (by decide) (c27_4 xs d m k hk) (fun v1 m1 q1 => ?_)
  obtain ⟨rfl, e1⟩ := q1; rw [e1]; clear e1
  refine y_st rfl rfl rfl rfl rfl (fun _ _ => rfl) ?_
  refine y_st rfl rfl rfl rfl rfl (fun _ _ => rfl) ?_
  show yP (xg xs) (d + 2) 26 8 [(0, .retAddr 64), (1, .int (nI k))] [.int (nI k), .retAddr 64] m _
  refine y_cbald rfl rfl rfl (by rw [xl_4]; exact x_in_nI hk (by decide)) ?_
  refine y_st rfl rfl rfl rfl rfl (fun _ _ => rfl) ?_
  refine y_st rfl rfl rfl rfl rfl (fun _ _ => rfl) ?_
  refine y_st rfl rfl rfl rfl rfl (fun _ _ => rfl) ?_
  show yP (xg xs) (d + 2) 26 14 [(0, .retAddr 64), (1, .int (nI k))] [.int (((((xsb_4).getD (nI k).toNatClampNeg 0) &&& (255 : Int32)).toUInt32 % 65536).toInt32)] m _
  exact y_cret rfl rfl rfl (pk_nc _) (by rw [nI_clamp (by omega), (ch_4 k hk).1]; exact ⟨rfl, rfl⟩)
set_option maxRecDepth 20000 in
/-- String.charAt of constant 4 -/
theorem c24_4 (xs : List Int32) (d : Nat) (m : yM) (k : Nat) (hk : k < 17) : yC (xg xs) (d + 3) 24 [.retAddr 24, .int (nI k)] m (fun r m' => r = some (.int (xsb_4.getD k 0)) ∧ m' = m) := by
  refine y_st rfl rfl rfl rfl rfl (fun _ _ => rfl) ?_
  show yP (xg xs) (d + 3) 24 1 [(0, .retAddr 24), (1, .int (nI k))] [.retAddr 24] m _
  refine y_call rfl rfl rfl rfl rfl (Nat.le_of_ble_eq_true rfl) (Nat.le_of_ble_eq_true rfl) rfl (by decide) (yC.mono (Nat.zero_le _) (fun _ _ z => z) (c25_4 xs 0 m)) (fun v1 m1 q1 => ?_)
  obtain ⟨rfl, e1⟩ := q1; rw [e1]; clear e1
  show yP (xg xs) (d + 3) 24 4 [(0, .retAddr 24), (1, .int (nI k))] [.int (1 : Int32)] m _
  refine y_zeq (t := 16) rfl rfl rfl (fun h4 => ?_) (fun h4 => ?_)
  · exact absurd h4 (by decide)
  · refine y_st rfl rfl rfl rfl rfl (fun _ _ => rfl) ?_
    refine y_st rfl rfl rfl rfl rfl (fun _ _ => rfl) ?_
    refine y_st rfl rfl rfl rfl rfl (fun _ _ => rfl) ?_
    show yP (xg xs) (d + 3) 24 12 [(0, .retAddr 24), (1, .int (nI k))] [.int (nI k), .retAddr 64] m _
    refine y_call rfl rfl rfl rfl rfl (Nat.le_of_ble_eq_true rfl) (Nat.le_of_ble_eq_true rfl) rfl (by decide) (c26_4 xs d m k hk) (fun v2 m2 q2 => ?_)
    obtain ⟨rfl, e2⟩ := q2; rw [e2]; clear e2
    show yP (xg xs) (d + 3) 24 15 [(0, .retAddr 24), (1, .int (nI k))] [.int (xsb_4.getD k 0)] m _
    exact y_cret rfl rfl rfl (cc_4 hk) (⟨rfl, rfl⟩)
theorem xl_5 : xsb_5.length = 40 := by decide +kernel
/-- letters of the alphabet are what they are as chars and bytes -/
theorem ch_5 : ∀ i, i < 40 → ((xsb_5.getD i 0 &&& 255).toUInt32 % 65536).toInt32 = xsb_5.getD i 0 ∧ (xsb_5.getD i 0).toInt8.toInt32 = xsb_5.getD i 0 := by decide +kernel
theorem cc_5 {i : Nat} (h : i < 40) : narrow .char (.int (xsb_5.getD i 0)) = .int (xsb_5.getD i 0) := by rw [← (ch_5 i h).1]; exact pk_nc _
set_option maxRecDepth 20000 in
/-- String.coder of constant 5 -/
theorem c23_5 (xs : List Int32) (d : Nat) (m : yM)  : yC (xg xs) d 23 [.retAddr 25] m (fun r m' => r = some (.int 0) ∧ m' = m) := by
  refine y_st rfl rfl rfl rfl rfl (fun _ _ => rfl) ?_
  show yP (xg xs) d 23 3 [(0, .retAddr 25)] [.int (1 : Int32)] m _
  refine y_zeq (t := 13) rfl rfl rfl (fun h3 => ?_) (fun h3 => ?_)
  · exact absurd h3 (by decide)
  · refine y_st rfl rfl rfl rfl rfl (fun _ _ => rfl) ?_
    refine y_st rfl rfl rfl rfl rfl (fun _ _ => rfl) ?_
    refine y_st rfl rfl rfl rfl rfl (fun _ _ => rfl) ?_
    show yP (xg xs) d 23 14 [(0, .retAddr 25)] [.int (0 : Int32)] m _
    exact y_ret rfl rfl rfl rfl (⟨rfl, rfl⟩)
set_option maxRecDepth 20000 in
/-- String.length of constant 5 -/
theorem c22_5 (xs : List Int32) (d : Nat) (m : yM)  : yC (xg xs) (d + 1) 22 [.retAddr 25] m (fun r m' => r = some (.int 40) ∧ m' = m) := by
  refine y_st rfl rfl rfl rfl rfl (fun _ _ => rfl) ?_
  refine y_st rfl rfl rfl rfl rfl (fun _ _ => rfl) ?_
  refine y_st rfl rfl rfl rfl rfl (fun _ _ => rfl) ?_
  refine y_st rfl rfl rfl rfl rfl (fun _ _ => rfl) ?_
  show yP (xg xs) (d + 1) 22 6 [(0, .retAddr 25)] [.retAddr 25, .int (40 : Int32)] m _
  refine y_call rfl rfl rfl rfl rfl (Nat.le_of_ble_eq_true rfl) (Nat.le_of_ble_eq_true rfl) rfl (by decide) (c23_5 xs d m) (fun v1 m1 q1 => ?_)
  obtain ⟨rfl, e1⟩ := q1; rw [e1]; clear e1
  refine y_st rfl rfl rfl rfl rfl (fun _ _ => rfl) ?_
  show yP (xg xs) (d + 1) 22 10 [(0, .retAddr 25)] [.int ((40 : Int32) >>> ((0 : Int32) &&& 31))] m _
  exact y_iret rfl rfl rfl (⟨congrArg (fun z => some (Value.int z)) (by decide), rfl⟩)
set_option maxRecDepth 20000 in
/-- String.isLatin1 of constant 5 -/
theorem c25_5 (xs : List Int32) (d : Nat) (m : yM)  : yC (xg xs) d 25 [.retAddr 25] m (fun r m' => r = some (.int 1) ∧ m' = m) := by
  refine y_st rfl rfl rfl rfl rfl (fun _ _ => rfl) ?_
  show yP (xg xs) d 25 3 [(0, .retAddr 25)] [.int (1 : Int32)] m _
  refine y_zeq (t := 17) rfl rfl rfl (fun h3 => ?_) (fun h3 => ?_)
  · exact absurd h3 (by decide)
  · refine y_st rfl rfl rfl rfl rfl (fun _ _ => rfl) ?_
    refine y_st rfl rfl rfl rfl rfl (fun _ _ => rfl) ?_
    show yP (xg xs) d 25 10 [(0, .retAddr 25)] [.int (0 : Int32)] m _
    refine y_zne (t := 17) rfl rfl rfl (fun h10 => ?_) (fun h10 => ?_)
    · exact absurd h10 (by decide)
    · refine y_st rfl rfl rfl rfl rfl (fun _ _ => rfl) ?_
      refine y_st rfl rfl rfl rfl rfl (fun _ _ => rfl) ?_
      show yP (xg xs) d 25 18 [(0, .retAddr 25)] [.int (1 : Int32)] m _
      exact y_zret rfl rfl rfl (by decide) (⟨rfl, rfl⟩)
set_option maxRecDepth 20000 in
/-- Preconditions.checkIndex -/
theorem c28_5 (xs : List Int32) (d : Nat) (m : yM) (k : Nat) (hk : k < 40) : yC (xg xs) d 28 [.int (nI k), .int (40 : Int32), .retAddr 0] m (fun r m' => r = some (.int (nI k)) ∧ m' = m) := by
  refine y_st rfl rfl rfl rfl rfl (fun _ _ => rfl) ?_
  show yP (xg xs) d 28 1 [(0, .int (nI k)), (1, .int (40 : Int32)), (2, .retAddr 0)] [.int (nI k)] m _
  refine y_zlt (t := 9) rfl rfl rfl (fun h1 => ?_) (fun h1 => ?_)
  · exact absurd h1 (nI_pos (by omega))
  · refine y_st rfl rfl rfl rfl rfl (fun _ _ => rfl) ?_
    refine y_st rfl rfl rfl rfl rfl (fun _ _ => rfl) ?_
    show yP (xg xs) d 28 6 [(0, .int (nI k)), (1, .int (40 : Int32)), (2, .retAddr 0)] [.int (40 : Int32), .int (nI k)] m _
    refine y_ilt (t := 16) rfl rfl rfl (fun h6 => ?_) (fun h6 => ?_)
    · refine y_st rfl rfl rfl rfl rfl (fun _ _ => rfl) ?_
      show yP (xg xs) d 28 17 [(0, .int (nI k)), (1, .int (40 : Int32)), (2, .retAddr 0)] [.int (nI k)] m _
      exact y_iret rfl rfl rfl (⟨rfl, rfl⟩)
    · exact absurd (nI_lt (b := 40) hk (by decide)) h6
set_option maxRecDepth 20000 in
/-- String.checkIndex -/
theorem c27_5 (xs : List Int32) (d : Nat) (m : yM) (k : Nat) (hk : k < 40) : yC (xg xs) (d + 1) 27 [.int (nI k), .int (40 : Int32)] m (fun r m' => r = none ∧ m' = m) := by
  refine y_st rfl rfl rfl rfl rfl (fun _ _ => rfl) ?_
  refine y_st rfl rfl rfl rfl rfl (fun _ _ => rfl) ?_
  refine y_st rfl rfl rfl rfl rfl (fun _ _ => rfl) ?_
  show yP (xg xs) (d + 1) 27 5 [(0, .int (nI k)), (1, .int (40 : Int32))] [.retAddr 0, .int (40 : Int32), .int (nI k)] m _
  refine y_call rfl rfl rfl rfl rfl (Nat.le_of_ble_eq_true rfl) (Nat.le_of_ble_eq_true rfl) rfl (by decide) (c28_5 xs d m k hk) (fun v1 m1 q1 => ?_)
  obtain ⟨rfl, e1⟩ := q1; rw [e1]; clear e1
  refine y_st rfl rfl rfl rfl rfl (fun _ _ => rfl) ?_
  show yP (xg xs) (d + 1) 27 9 [(0, .int (nI k)), (1, .int (40 : Int32))] [] m _
  exact y_ret rfl rfl rfl rfl (⟨rfl, rfl⟩)
set_option maxRecDepth 20000 in
/-- StringLatin1.charAt of constant 5 -/
theorem c26_5 (xs : List Int32) (d : Nat) (m : yM) (k : Nat) (hk : k < 40) : yC (xg xs) (d + 2) 26 [.retAddr 65, .int (nI k)] m (fun r m' => r = some (.int (xsb_5.getD k 0)) ∧ m' = m) := by
  refine y_st rfl rfl rfl rfl rfl (fun _ _ => rfl) ?_
  refine y_st rfl rfl rfl rfl rfl (fun _ _ => rfl) ?_
  refine y_st rfl rfl rfl rfl rfl (fun _ _ => rfl) ?_
  show yP (xg xs) (d + 2) 26 3 [(0, .retAddr 65), (1, .int (nI k))] [.int (40 : Int32), .int (nI k)] m _
  refine y_call rfl rfl rfl rfl rfl (Nat.le_of_ble_eq_true rfl) (Nat.le_of_ble_eq_true rfl) rfl (by decide) (c27_5 xs d m k hk) (fun v1 m1 q1 => ?_)
  obtain ⟨rfl, e1⟩ := q1; rw [e1]; clear e1
  refine y_st rfl rfl rfl rfl rfl (fun _ _ => rfl) ?_
  refine y_st rfl rfl rfl rfl rfl (fun _ _ => rfl) ?_
  show yP (xg xs) (d + 2) 26 8 [(0, .retAddr 65), (1, .int (nI k))] [.int (nI k), .retAddr 65] m _
  refine y_cbald rfl rfl rfl (by rw [xl_5]; exact x_in_nI hk (by decide)) ?_
  refine y_st rfl rfl rfl rfl rfl (fun _ _ => rfl) ?_
  refine y_st rfl rfl rfl rfl rfl (fun _ _ => rfl) ?_
  refine y_st rfl rfl rfl rfl rfl (fun _ _ => rfl) ?_
  show yP (xg xs) (d + 2) 26 14 [(0, .retAddr 65), (1, .int (nI k))] [.int (((((xsb_5).getD (nI k).toNatClampNeg 0) &&& (255 : Int32)).toUInt32 % 65536).toInt32)] m _
  exact y_cret rfl rfl rfl (pk_nc _) (by rw [nI_clamp (by omega), (ch_5 k hk).1]; exact ⟨rfl, rfl⟩)
set_option maxRecDepth 20000 in
/-- String.charAt of constant 5 -/
theorem c24_5 (xs : List Int32) (d : Nat) (m : yM) (k : Nat) (hk : k < 40) : yC (xg xs) (d + 3) 24 [.retAddr 25, .int (nI k)] m (fun r m' => r = some (.int (xsb_5.getD k 0)) ∧ m' = m) := by
  refine y_st rfl rfl rfl rfl rfl (fun _ _ => rfl) ?_
  show yP (xg xs) (d + 3) 24 1 [(0, .retAddr 25), (1, .int (nI k))] [.retAddr 25] m _
  refine y_call rfl rfl rfl rfl rfl (Nat.le_of_ble_eq_true rfl) (Nat.le_of_ble_eq_true rfl) rfl (by decide) (yC.mono (Nat.zero_le _) (fun _ _ z => z) (c25_5 xs 0 m)) (fun v1 m1 q1 => ?_)
  obtain ⟨rfl, e1⟩ := q1; rw [e1]; clear e1
  show yP (xg xs) (d + 3) 24 4 [(0, .retAddr 25), (1, .int (nI k))] [.int (1 : Int32)] m _
  refine y_zeq (t := 16) rfl rfl rfl (fun h4 => ?_) (fun h4 => ?_)
  · exact absurd h4 (by decide)
  · refine y_st rfl rfl rfl rfl rfl (fun _ _ => rfl) ?_
    refine y_st rfl rfl rfl rfl rfl (fun _ _ => rfl) ?_
    refine y_st rfl rfl rfl rfl rfl (fun _ _ => rfl) ?_
    show yP (xg xs) (d + 3) 24 12 [(0, .retAddr 25), (1, .int (nI k))] [.int (nI k), .retAddr 65] m _
    refine y_call rfl rfl rfl rfl rfl (Nat.le_of_ble_eq_true rfl) (Nat.le_of_ble_eq_true rfl) rfl (by decide) (c26_5 xs d m k hk) (fun v2 m2 q2 => ?_)
    obtain ⟨rfl, e2⟩ := q2; rw [e2]; clear e2
    show yP (xg xs) (d + 3) 24 15 [(0, .retAddr 25), (1, .int (nI k))] [.int (xsb_5.getD k 0)] m _
    exact y_cret rfl rfl rfl (cc_5 hk) (⟨rfl, rfl⟩)
theorem xl_6 : xsb_6.length = 54 := by decide +kernel
/-- letters of the alphabet are what they are as chars and bytes -/
theorem ch_6 : ∀ i, i < 54 → ((xsb_6.getD i 0 &&& 255).toUInt32 % 65536).toInt32 = xsb_6.getD i 0 ∧ (xsb_6.getD i 0).toInt8.toInt32 = xsb_6.getD i 0 := by decide +kernel
theorem cc_6 {i : Nat} (h : i < 54) : narrow .char (.int (xsb_6.getD i 0)) = .int (xsb_6.getD i 0) := by rw [← (ch_6 i h).1]; exact pk_nc _
set_option maxRecDepth 20000 in
/-- String.coder of constant 6 -/
theorem c23_6 (xs : List Int32) (d : Nat) (m : yM)  : yC (xg xs) d 23 [.retAddr 26] m (fun r m' => r = some (.int 0) ∧ m' = m) := by
  refine y_st rfl rfl rfl rfl rfl (fun _ _ => rfl) ?_
  show yP (xg xs) d 23 3 [(0, .retAddr 26)] [.int (1 : Int32)] m _
  refine y_zeq (t := 13) rfl rfl rfl (fun h3 => ?_) (fun h3 => ?_)
  · exact absurd h3 (by decide)
  · refine y_st rfl rfl rfl rfl rfl (fun _ _ => rfl) ?_
    refine y_st rfl rfl rfl rfl rfl (fun _ _ => rfl) ?_
    refine y_st rfl rfl rfl rfl rfl (fun _ _ => rfl) ?_
    show yP (xg xs) d 23 14 [(0, .retAddr 26)] [.int (0 : Int32)] m _
    exact y_ret rfl rfl rfl rfl (⟨rfl, rfl⟩)
set_option maxRecDepth 20000 in
/-- String.length of constant 6 -/
theorem c22_6 (xs : List Int32) (d : Nat) (m : yM)  : yC (xg xs) (d + 1) 22 [.retAddr 26] m (fun r m' => r = some (.int 54) ∧ m' = m) := by
  refine y_st rfl rfl rfl rfl rfl (fun _ _ => rfl) ?_
  refine y_st rfl rfl rfl rfl rfl (fun _ _ => rfl) ?_
  refine y_st rfl rfl rfl rfl rfl (fun _ _ => rfl) ?_
  refine y_st rfl rfl rfl rfl rfl (fun _ _ => rfl) ?_
  show yP (xg xs) (d + 1) 22 6 [(0, .retAddr 26)] [.retAddr 26, .int (54 : Int32)] m _
  refine y_call rfl rfl rfl rfl rfl (Nat.le_of_ble_eq_true rfl) (Nat.le_of_ble_eq_true rfl) rfl (by decide) (c23_6 xs d m) (fun v1 m1 q1 => ?_)
  obtain ⟨rfl, e1⟩ := q1; rw [e1]; clear e1
  refine y_st rfl rfl rfl rfl rfl (fun _ _ => rfl) ?_
  show yP (xg xs) (d + 1) 22 10 [(0, .retAddr 26)] [.int ((54 : Int32) >>> ((0 : Int32) &&& 31))] m _
  exact y_iret rfl rfl rfl (⟨congrArg (fun z => some (Value.int z)) (by decide), rfl⟩)
set_option maxRecDepth 20000 in
/-- String.isLatin1 of constant 6 -/
theorem c25_6 (xs : List Int32) (d : Nat) (m : yM)  : yC (xg xs) d 25 [.retAddr 26] m (fun r m' => r = some (.int 1) ∧ m' = m) := by
  refine y_st rfl rfl rfl rfl rfl (fun _ _ => rfl) ?_
  show yP (xg xs) d 25 3 [(0, .retAddr 26)] [.int (1 : Int32)] m _
  refine y_zeq (t := 17) rfl rfl rfl (fun h3 => ?_) (fun h3 => ?_)
  · exact absurd h3 (by decide)
  · refine y_st rfl rfl rfl rfl rfl (fun _ _ => rfl) ?_
    refine y_st rfl rfl rfl rfl rfl (fun _ _ => rfl) ?_
    show yP (xg xs) d 25 10 [(0, .retAddr 26)] [.int (0 : Int32)] m _
    refine y_zne (t := 17) rfl rfl rfl (fun h10 => ?_) (fun h10 => ?_)
    · exact absurd h10 (by decide)
    · refine y_st rfl rfl rfl rfl rfl (fun _ _ => rfl) ?_
      refine y_st rfl rfl rfl rfl rfl (fun _ _ => rfl) ?_
      show yP (xg xs) d 25 18 [(0, .retAddr 26)] [.int (1 : Int32)] m _
      exact y_zret rfl rfl rfl (by decide) (⟨rfl, rfl⟩)
set_option maxRecDepth 20000 in
/-- Preconditions.checkIndex -/
theorem c28_6 (xs : List Int32) (d : Nat) (m : yM) (k : Nat) (hk : k < 54) : yC (xg xs) d 28 [.int (nI k), .int (54 : Int32), .retAddr 0] m (fun r m' => r = some (.int (nI k)) ∧ m' = m) := by
  refine y_st rfl rfl rfl rfl rfl (fun _ _ => rfl) ?_
  show yP (xg xs) d 28 1 [(0, .int (nI k)), (1, .int (54 : Int32)), (2, .retAddr 0)] [.int (nI k)] m _
  refine y_zlt (t := 9) rfl rfl rfl (fun h1 => ?_) (fun h1 => ?_)
  · exact absurd h1 (nI_pos (by omega))
  · refine y_st rfl rfl rfl rfl rfl (fun _ _ => rfl) ?_
    refine y_st rfl rfl rfl rfl rfl (fun _ _ => rfl) ?_
    show yP (xg xs) d 28 6 [(0, .int (nI k)), (1, .int (54 : Int32)), (2, .retAddr 0)] [.int (54 : Int32), .int (nI k)] m _
    refine y_ilt (t := 16) rfl rfl rfl (fun h6 => ?_) (fun h6 => ?_)
    · refine y_st rfl rfl rfl rfl rfl (fun _ _ => rfl) ?_
      show yP (xg xs) d 28 17 [(0, .int (nI k)), (1, .int (54 : Int32)), (2, .retAddr 0)] [.int (nI k)] m _
      exact y_iret rfl rfl rfl (⟨rfl, rfl⟩)
    · exact absurd (nI_lt (b := 54) hk (by decide)) h6
set_option maxRecDepth 20000 in
/-- String.checkIndex -/
theorem c27_6 (xs : List Int32) (d : Nat) (m : yM) (k : Nat) (hk : k < 54) : yC (xg xs) (d + 1) 27 [.int (nI k), .int (54 : Int32)] m (fun r m' => r = none ∧ m' = m) := by
  refine y_st rfl rfl rfl rfl rfl (fun _ _ => rfl) ?_
  refine y_st rfl rfl rfl rfl rfl (fun _ _ => rfl) ?_
  refine y_st rfl rfl rfl rfl rfl (fun _ _ => rfl) ?_
  show yP (xg xs) (d + 1) 27 5 [(0, .int (nI k)), (1, .int (54 : Int32))] [.retAddr 0, .int (54 : Int32), .int (nI k)] m _
  refine y_call rfl rfl rfl rfl rfl (Nat.le_of_ble_eq_true rfl) (Nat.le_of_ble_eq_true rfl) rfl (by decide) (c28_6 xs d m k hk) (fun v1 m1 q1 => ?_)
  obtain ⟨rfl, e1⟩ := q1; rw [e1]; clear e1
  refine y_st rfl rfl rfl rfl rfl (fun _ _ => rfl) ?_
  show yP (xg xs) (d + 1) 27 9 [(0, .int (nI k)), (1, .int (54 : Int32))] [] m _
  exact y_ret rfl rfl rfl rfl (⟨rfl, rfl⟩)
set_option maxRecDepth 20000 in
/-- StringLatin1.charAt of constant 6 -/
theorem c26_6 (xs : List Int32) (d : Nat) (m : yM) (k : Nat) (hk : k < 54) : yC (xg xs) (d + 2) 26 [.retAddr 66, .int (nI k)] m (fun r m' => r = some (.int (xsb_6.getD k 0)) ∧ m' = m) := by
  refine y_st rfl rfl rfl rfl rfl (fun _ _ => rfl) ?_
  refine y_st rfl rfl rfl rfl rfl (fun _ _ => rfl) ?_
  refine y_st rfl rfl rfl rfl rfl (fun _ _ => rfl) ?_
  show yP (xg xs) (d + 2) 26 3 [(0, .retAddr 66), (1, .int (nI k))] [.int (54 : Int32), .int (nI k)] m _
  refine y_call rfl rfl rfl rfl rfl (Nat.le_of_ble_eq_true rfl) (Nat.le_of_ble_eq_true rfl) rfl (by decide) (c27_6 xs d m k hk) (fun v1 m1 q1 => ?_)
  obtain ⟨rfl, e1⟩ := q1; rw [e1]; clear e1
  refine y_st rfl rfl rfl rfl rfl (fun _ _ => rfl) ?_
  refine y_st rfl rfl rfl rfl rfl (fun _ _ => rfl) ?_
  show yP (xg xs) (d + 2) 26 8 [(0, .retAddr 66), (1, .int (nI k))] [.int (nI k), .retAddr 66] m _
  refine y_cbald rfl rfl rfl (by rw [xl_6]; exact x_in_nI hk (by decide)) ?_
  refine y_st rfl rfl rfl rfl rfl (fun _ _ => rfl) ?_
  refine y_st rfl rfl rfl rfl rfl (fun _ _ => rfl) ?_
  refine y_st rfl rfl rfl rfl rfl (fun _ _ => rfl) ?_
  show yP (xg xs) (d + 2) 26 14 [(0, .retAddr 66), (1, .int (nI k))] [.int (((((xsb_6).getD (nI k).toNatClampNeg 0) &&& (255 : Int32)).toUInt32 % 65536).toInt32)] m _
  exact y_cret rfl rfl rfl (pk_nc _) (by rw [nI_clamp (by omega), (ch_6 k hk).1]; exact ⟨rfl, rfl⟩)
set_option maxRecDepth 20000 in
/-- String.charAt of constant 6 -/
theorem c24_6 (xs : List Int32) (d : Nat) (m : yM) (k : Nat) (hk : k < 54) : yC (xg xs) (d + 3) 24 [.retAddr 26, .int (nI k)] m (fun r m' => r = some (.int (xsb_6.getD k 0)) ∧ m' = m) := by
  refine y_st rfl rfl rfl rfl rfl (fun _ _ => rfl) ?_
  show yP (xg xs) (d + 3) 24 1 [(0, .retAddr 26), (1, .int (nI k))] [.retAddr 26] m _
  refine y_call rfl rfl rfl rfl rfl (Nat.le_of_ble_eq_true rfl) (Nat.le_of_ble_eq_true rfl) rfl (by decide) (yC.mono (Nat.zero_le _) (fun _ _ z => z) (c25_6 xs 0 m)) (fun v1 m1 q1 => ?_)
  obtain ⟨rfl, e1⟩ := q1; rw [e1]; clear e1
  show yP (xg xs) (d + 3) 24 4 [(0, .retAddr 26), (1, .int (nI k))] [.int (1 : Int32)] m _
  refine y_zeq (t := 16) rfl rfl rfl (fun h4 => ?_) (fun h4 => ?_)
  · exact absurd h4 (by decide)
  · refine y_st rfl rfl rfl rfl rfl (fun _ _ => rfl) ?_
    refine y_st rfl rfl rfl rfl rfl (fun _ _ => rfl) ?_
    refine y_st rfl rfl rfl rfl rfl (fun _ _ => rfl) ?_
    show yP (xg xs) (d + 3) 24 12 [(0, .retAddr 26), (1, .int (nI k))] [.int (nI k), .retAddr 66] m _
    refine y_call rfl rfl rfl rfl rfl (Nat.le_of_ble_eq_true rfl) (Nat.le_of_ble_eq_true rfl) rfl (by decide) (c26_6 xs d m k hk) (fun v2 m2 q2 => ?_)
    obtain ⟨rfl, e2⟩ := q2; rw [e2]; clear e2
    show yP (xg xs) (d + 3) 24 15 [(0, .retAddr 26), (1, .int (nI k))] [.int (xsb_6.getD k 0)] m _
    exact y_cret rfl rfl rfl (cc_6 hk) (⟨rfl, rfl⟩)
theorem xl_7 : xsb_7.length = 26 := by decide +kernel
/-- letters of the alphabet are what they are as chars and bytes -/
theorem ch_7 : ∀ i, i < 26 → ((xsb_7.getD i 0 &&& 255).toUInt32 % 65536).toInt32 = xsb_7.getD i 0 ∧ (xsb_7.getD i 0).toInt8.toInt32 = xsb_7.getD i 0 := by decide +kernel
theorem cc_7 {i : Nat} (h : i < 26) : narrow .char (.int (xsb_7.getD i 0)) = .int (xsb_7.getD i 0) := by rw [← (ch_7 i h).1]; exact pk_nc _
set_option maxRecDepth 20000 in
/-- String.coder of constant 7 -/
theorem c23_7 (xs : List Int32) (d : Nat) (m : yM)  : yC (xg xs) d 23 [.retAddr 27] m (fun r m' => r = some (.int 0) ∧ m' = m) := by
  refine y_st rfl rfl rfl rfl rfl (fun _ _ => rfl) ?_
  show yP (xg xs) d 23 3 [(0, .retAddr 27)] [.int (1 : Int32)] m _
  refine y_zeq (t := 13) rfl rfl rfl (fun h3 => ?_) (fun h3 => ?_)
  · exact absurd h3 (by decide)
  · refine y_st rfl rfl rfl rfl rfl (fun _ _ => rfl) ?_
    refine y_st rfl rfl rfl rfl rfl (fun _ _ => rfl) ?_
    refine y_st rfl rfl rfl rfl rfl (fun _ _ => rfl) ?_
    show yP (xg xs) d 23 14 [(0, .retAddr 27)] [.int (0 : Int32)] m _
    exact y_ret rfl rfl rfl rfl (⟨rfl, rfl⟩)
set_option maxRecDepth 20000 in
/-- String.length of constant 7 -/
theorem c22_7 (xs : List Int32) (d : Nat) (m : yM)  : yC (xg xs) (d + 1) 22 [.retAddr 27] m (fun r m' => r = some (.int 26) ∧ m' = m) := by
  refine y_st rfl rfl rfl rfl rfl (fun _ _ => rfl) ?_
  refine y_st rfl rfl rfl rfl rfl (fun _ _ => rfl) ?_
  refine y_st rfl rfl rfl rfl rfl (fun _ _ => rfl) ?_
  refine y_st rfl rfl rfl rfl rfl (fun _ _ => rfl) ?_
  show yP (xg xs) (d + 1) 22 6 [(0, .retAddr 27)] [.retAddr 27, .int (26 : Int32)] m _
  refine y_call rfl rfl rfl rfl rfl (Nat.le_of_ble_eq_true rfl) (Nat.le_of_ble_eq_true rfl) rfl (by decide) (c23_7 xs d m) (fun v1 m1 q1 => ?_)
  obtain ⟨rfl, e1⟩ := q1; rw [e1]; clear e1
  refine y_st rfl rfl rfl rfl rfl (fun _ _ => rfl) ?_
  show yP (xg xs) (d + 1) 22 10 [(0, .retAddr 27)] [.int ((26 : Int32) >>> ((0 : Int32) &&& 31))] m _
  exact y_iret rfl rfl rfl (⟨congrArg (fun z => some (Value.int z)) (by decide), rfl⟩)
set_option maxRecDepth 20000 in
/-- String.isLatin1 of constant 7 -/
theorem c25_7 (xs : List Int32) (d : Nat) (m : yM)  : yC (xg xs) d 25 [.retAddr 27] m (fun r m' => r = some (.int 1) ∧ m' = m) := by
  refine y_st rfl rfl rfl rfl rfl (fun _ _ => rfl) ?_
  show yP (xg xs) d 25 3 [(0, .retAddr 27)] [.int (1 : Int32)] m _
  refine y_zeq (t := 17) rfl rfl rfl (fun h3 => ?_) (fun h3 => ?_)
  · exact absurd h3 (by decide)
  · refine y_st rfl rfl rfl rfl rfl (fun _ _ => rfl) ?_
    refine y_st rfl rfl rfl rfl rfl (fun _ _ => rfl) ?_
    show yP (xg xs) d 25 10 [(0, .retAddr 27)] [.int (0 : Int32)] m _
    refine y_zne (t := 17) rfl rfl rfl (fun h10 => ?_) (fun h10 => ?_)
    · exact absurd h10 (by decide)
    · refine y_st rfl rfl rfl rfl rfl (fun _ _ => rfl) ?_
      refine y_st rfl rfl rfl rfl rfl (fun _ _ => rfl) ?_
      show yP (xg xs) d 25 18 [(0, .retAddr 27)] [.int (1 : Int32)] m _
      exact y_zret rfl rfl rfl (by decide) (⟨rfl, rfl⟩)
set_option maxRecDepth 20000 in
/-- Preconditions.checkIndex -/
theorem c28_7 (xs : List Int32) (d : Nat) (m : yM) (k : Nat) (hk : k < 26) : yC (xg xs) d 28 [.int (nI k), .int (26 : Int32), .retAddr 0] m (fun r m' => r = some (.int (nI k)) ∧ m' = m) := by
  refine y_st rfl rfl rfl rfl rfl (fun _ _ => rfl) ?_
  show yP (xg xs) d 28 1 [(0, .int (nI k)), (1, .int (26 : Int32)), (2, .retAddr 0)] [.int (nI k)] m _
  refine y_zlt (t := 9) rfl rfl rfl (fun h1 => ?_) (fun h1 => ?_)
  · exact absurd h1 (nI_pos (by omega))
  · refine y_st rfl rfl rfl rfl rfl (fun _ _ => rfl) ?_
    refine y_st rfl rfl rfl rfl rfl (fun _ _ => rfl) ?_
    show yP (xg xs) d 28 6 [(0, .int (nI k)), (1, .int (26 : Int32)), (2, .retAddr 0)] [.int (26 : Int32), .int (nI k)] m _
    refine y_ilt (t := 16) rfl rfl rfl (fun h6 => ?_) (fun h6 => ?_)
    · refine y_st rfl rfl rfl rfl rfl (fun _ _ => rfl) ?_
      show yP (xg xs) d 28 17 [(0, .int (nI k)), (1, .int (26 : Int32)), (2, .retAddr 0)] [.int (nI k)] m _
      exact y_iret rfl rfl rfl (⟨rfl, rfl⟩)
    · exact absurd (nI_lt (b := 26) hk (by decide)) h6
set_option maxRecDepth 20000 in
/-- String.checkIndex -/
theorem c27_7 (xs : List Int32) (d : Nat) (m : yM) (k : Nat) (hk : k < 26) : yC (xg xs) (d + 1) 27 [.int (nI k), .int (26 : Int32)] m (fun r m' => r = none ∧ m' = m) := by
  refine y_st rfl rfl rfl rfl rfl (fun _ _ => rfl) ?_
  refine y_st rfl rfl rfl rfl rfl (fun _ _ => rfl) ?_
  refine y_st rfl rfl rfl rfl rfl (fun _ _ => rfl) ?_
  show yP (xg xs) (d + 1) 27 5 [(0, .int (nI k)), (1, .int (26 : Int32))] [.retAddr 0, .int (26 : Int32), .int (nI k)] m _
  refine y_call rfl rfl rfl rfl rfl (Nat.le_of_ble_eq_true rfl) (Nat.le_of_ble_eq_true rfl) rfl (by decide) (c28_7 xs d m k hk) (fun v1 m1 q1 => ?_)
  obtain ⟨rfl, e1⟩ := q1; rw [e1]; clear e1
  refine y_st rfl rfl rfl rfl rfl (fun _ _ => rfl) ?_
  show yP (xg xs) (d + 1) 27 9 [(0, .int (nI k)), (1, .int (26 : Int32))] [] m _
  exact y_ret rfl rfl rfl rfl (⟨rfl, rfl⟩)
set_option maxRecDepth 20000 in
/-- StringLatin1.charAt of constant 7 -/
theorem c26_7 (xs : List Int32) (d : Nat) (m : yM) (k : Nat) (hk : k < 26) : yC (xg xs) (d + 2) 26 [.retAddr 67, .int (nI k)] m (fun r m' => r = some (.int (xsb_7.getD k 0)) ∧ m' = m) := by
  refine y_st rfl rfl rfl rfl rfl (fun _ _ => rfl) ?_
  refine y_st rfl rfl rfl rfl rfl (fun _ _ => rfl) ?_
  refine y_st rfl rfl rfl rfl rfl (fun _ _ => rfl) ?_
  show yP (xg xs) (d + 2) 26 3 [(0, .retAddr 67), (1, .int (nI k))] [.int (26 : Int32), .int (nI k)] m _
  refine y_call rfl rfl rfl rfl rfl (Nat.le_of_ble_eq_true rfl) (Nat.le_of_ble_eq_true rfl) rfl (by decide) (c27_7 xs d m k hk) (fun v1 m1 q1 => ?_)
  obtain ⟨rfl, e1⟩ := q1; rw [e1]; clear e1
  refine y_st rfl rfl rfl rfl rfl (fun _ _ => rfl) ?_
  refine y_st rfl rfl rfl rfl rfl (fun _ _ => rfl) ?_
  show yP (xg xs) (d + 2) 26 8 [(0, .retAddr 67), (1, .int (nI k))] [.int (nI k), .retAddr 67] m _
  refine y_cbald rfl rfl rfl (by rw [xl_7]; exact x_in_nI hk (by decide)) ?_
  refine y_st rfl rfl rfl rfl rfl (fun _ _ => rfl) ?_
  refine y_st rfl rfl rfl rfl rfl (fun _ _ => rfl) ?_
  refine y_st rfl rfl rfl rfl rfl (fun _ _ => rfl) ?_
  show yP (xg xs) (d + 2) 26 14 [(0, .retAddr 67), (1, .int (nI k))] [.int (((((xsb_7).getD (nI k).toNatClampNeg 0) &&& (255 : Int32)).toUInt32 % 65536).toInt32)] m _
  exact y_cret rfl rfl rfl (pk_nc _) (by rw [nI_clamp (by omega), (ch_7 k hk).1]; exact ⟨rfl, rfl⟩)
set_option maxRecDepth 20000 in
/-- String.charAt of constant 7 -/
theorem c24_7 (xs : List Int32) (d : Nat) (m : yM) (k : Nat) (hk : k < 26) : yC (xg xs) (d + 3) 24 [.retAddr 27, .int (nI k)] m (fun r m' => r = some (.int (xsb_7.getD k 0)) ∧ m' = m) := by
  refine y_st rfl rfl rfl rfl rfl (fun _ _ => rfl) ?_
  show yP (xg xs) (d + 3) 24 1 [(0, .retAddr 27), (1, .int (nI k))] [.retAddr 27] m _
  refine y_call rfl rfl rfl rfl rfl (Nat.le_of_ble_eq_true rfl) (Nat.le_of_ble_eq_true rfl) rfl (by decide) (yC.mono (Nat.zero_le _) (fun _ _ z => z) (c25_7 xs 0 m)) (fun v1 m1 q1 => ?_)
  obtain ⟨rfl, e1⟩ := q1; rw [e1]; clear e1
  show yP (xg xs) (d + 3) 24 4 [(0, .retAddr 27), (1, .int (nI k))] [.int (1 : Int32)] m _
  refine y_zeq (t := 16) rfl rfl rfl (fun h4 => ?_) (fun h4 => ?_)
  · exact absurd h4 (by decide)
  · refine y_st rfl rfl rfl rfl rfl (fun _ _ => rfl) ?_
    refine y_st rfl rfl rfl rfl rfl (fun _ _ => rfl) ?_
    refine y_st rfl rfl rfl rfl rfl (fun _ _ => rfl) ?_
    show yP (xg xs) (d + 3) 24 12 [(0, .retAddr 27), (1, .int (nI k))] [.int (nI k), .retAddr 67] m _
    refine y_call rfl rfl rfl rfl rfl (Nat.le_of_ble_eq_true rfl) (Nat.le_of_ble_eq_true rfl) rfl (by decide) (c26_7 xs d m k hk) (fun v2 m2 q2 => ?_)
    obtain ⟨rfl, e2⟩ := q2; rw [e2]; clear e2
    show yP (xg xs) (d + 3) 24 15 [(0, .retAddr 27), (1, .int (nI k))] [.int (xsb_7.getD k 0)] m _
    exact y_cret rfl rfl rfl (cc_7 hk) (⟨rfl, rfl⟩)
theorem xl_8 : xsb_8.length = 31 := by decide +kernel
/-- letters of the alphabet are what they are as chars and bytes -/
theorem ch_8 : ∀ i, i < 31 → ((xsb_8.getD i 0 &&& 255).toUInt32 % 65536).toInt32 = xsb_8.getD i 0 ∧ (xsb_8.getD i 0).toInt8.toInt32 = xsb_8.getD i 0 := by decide +kernel
theorem cc_8 {i : Nat} (h : i < 31) : narrow .char (.int (xsb_8.getD i 0)) = .int (xsb_8.getD i 0) := by rw [← (ch_8 i h).1]; exact pk_nc _
set_option maxRecDepth 20000 in
/-- String.coder of constant 8 -/
theorem c23_8 (xs : List Int32) (d : Nat) (m : yM)  : yC (xg xs) d 23 [.retAddr 28] m (fun r m' => r = some (.int 0) ∧ m' = m) := by
  refine y_st rfl rfl rfl rfl rfl (fun _ _ => rfl) ?_
  show yP (xg xs) d 23 3 [(0, .retAddr 28)] [.int (1 : Int32)] m _
  refine y_zeq (t := 13) rfl rfl rfl (fun h3 => ?_) (fun h3 => ?_)
  · exact absurd h3 (by decide)
  · refine y_st rfl rfl rfl rfl rfl (fun _ _ => rfl) ?_
    refine y_st rfl rfl rfl rfl rfl (fun _ _ => rfl) ?_
    refine y_st rfl rfl rfl rfl rfl (fun _ _ => rfl) ?_
    show yP (xg xs) d 23 14 [(0, .retAddr 28)] [.int (0 : Int32)] m _
    exact y_ret rfl rfl rfl rfl (⟨rfl, rfl⟩)
set_option maxRecDepth 20000 in
/-- String.length of constant 8 -/
theorem c22_8 (xs : List Int32) (d : Nat) (m : yM)  : yC (xg xs) (d + 1) 22 [.retAddr 28] m (fun r m' => r = some (.int 31) ∧ m' = m) := by
  refine y_st rfl rfl rfl rfl rfl (fun _ _ => rfl) ?_
  refine y_st rfl rfl rfl rfl rfl (fun _ _ => rfl) ?_
  refine y_st rfl rfl rfl rfl rfl (fun _ _ => rfl) ?_
  refine y_st rfl rfl rfl rfl rfl (fun _ _ => rfl) ?_
  show yP (xg xs) (d + 1) 22 6 [(0, .retAddr 28)] [.retAddr 28, .int (31 : Int32)] m _
  refine y_call rfl rfl rfl rfl rfl (Nat.le_of_ble_eq_true rfl) (Nat.le_of_ble_eq_true rfl) rfl (by decide) (c23_8 xs d m) (fun v1 m1 q1 => ?_)
  obtain ⟨rfl, e1⟩ := q1; rw [e1]; clear e1
  refine y_st rfl rfl rfl rfl rfl (fun _ _ => rfl) ?_
  show yP (xg xs) (d + 1) 22 10 [(0, .retAddr 28)] [.int ((31 : Int32) >>> ((0 : Int32) &&& 31))] m _
  exact y_iret rfl rfl rfl (⟨congrArg (fun z => some (Value.int z)) (by decide), rfl⟩)
set_option maxRecDepth 20000 in
/-- String.isLatin1 of constant 8 -/
theorem c25_8 (xs : List Int32) (d : Nat) (m : yM)  : yC (xg xs) d 25 [.retAddr 28] m (fun r m' => r = some (.int 1) ∧ m' = m) := by
  refine y_st rfl rfl rfl rfl rfl (fun _ _ => rfl) ?_
  show yP (xg xs) d 25 3 [(0, .retAddr 28)] [.int (1 : Int32)] m _
  refine y_zeq (t := 17) rfl rfl rfl (fun h3 => ?_) (fun h3 => ?_)
  · exact absurd h3 (by decide)
  · refine y_st rfl rfl rfl rfl rfl (fun _ _ => rfl) ?_
    refine y_st rfl rfl rfl rfl rfl (fun _ _ => rfl) ?_
    show yP (xg xs) d 25 10 [(0, .retAddr 28)] [.int (0 : Int32)] m _
    refine y_zne (t := 17) rfl rfl rfl (fun h10 => ?_) (fun h10 => ?_)
    · exact absurd h10 (by decide)
    · refine y_st rfl rfl rfl rfl rfl (fun _ _ => rfl) ?_
      refine y_st rfl rfl rfl rfl rfl (fun _ _ => rfl) ?_
      show yP (xg xs) d 25 18 [(0, .retAddr 28)] [.int (1 : Int32)] m _
      exact y_zret rfl rfl rfl (by decide) (⟨rfl, rfl⟩)
set_option maxRecDepth 20000 in
/-- Preconditions.checkIndex -/
theorem c28_8 (xs : List Int32) (d : Nat) (m : yM) (k : Nat) (hk : k < 31) : yC (xg xs) d 28 [.int (nI k), .int (31 : Int32), .retAddr 0] m (fun r m' => r = some (.int (nI k)) ∧ m' = m) := by
  refine y_st rfl rfl rfl rfl rfl (fun _ _ => rfl) ?_
  show yP (xg xs) d 28 1 [(0, .int (nI k)), (1, .int (31 : Int32)), (2, .retAddr 0)] [.int (nI k)] m _
  refine y_zlt (t := 9) rfl rfl rfl (fun h1 => ?_) (fun h1 => ?_)
  · exact absurd h1 (nI_pos (by omega))
  · refine y_st rfl rfl rfl rfl rfl (fun _ _ => rfl) ?_
    refine y_st rfl rfl rfl rfl rfl (fun _ _ => rfl) ?_
    show yP (xg xs) d 28 6 [(0, .int (nI k)), (1, .int (31 : Int32)), (2, .retAddr 0)] [.int (31 : Int32), .int (nI k)] m _
    refine y_ilt (t := 16) rfl rfl rfl (fun h6 => ?_) (fun h6 => ?_)
    · refine y_st rfl rfl rfl rfl rfl (fun _ _ => rfl) ?_
      show yP (xg xs) d 28 17 [(0, .int (nI k)), (1, .int (31 : Int32)), (2, .retAddr 0)] [.int (nI k)] m _
      exact y_iret rfl rfl rfl (⟨rfl, rfl⟩)
    · exact absurd (nI_lt (b := 31) hk (by decide)) h6
set_option maxRecDepth 20000 in
/-- String.checkIndex -/
theorem c27_8 (xs : List Int32) (d : Nat) (m : yM) (k : Nat) (hk : k < 31) : yC (xg xs) (d + 1) 27 [.int (nI k), .int (31 : Int32)] m (fun r m' => r = none ∧ m' = m) := by
  refine y_st rfl rfl rfl rfl rfl (fun _ _ => rfl) ?_
  refine y_st rfl rfl rfl rfl rfl (fun _ _ => rfl) ?_
  refine y_st rfl rfl rfl rfl rfl (fun _ _ => rfl) ?_
  show yP (xg xs) (d + 1) 27 5 [(0, .int (nI k)), (1, .int (31 : Int32))] [.retAddr 0, .int (31 : Int32), .int (nI k)] m _
  refine y_call rfl rfl rfl rfl rfl (Nat.le_of_ble_eq_true rfl) (Nat.le_of_ble_eq_true rfl) rfl (by decide) (c28_8 xs d m k hk) (fun v1 m1 q1 => ?_)
  obtain ⟨rfl, e1⟩ := q1; rw [e1]; clear e1
  refine y_st rfl rfl rfl rfl rfl (fun _ _ => rfl) ?_
  show yP (xg xs) (d + 1) 27 9 [(0, .int (nI k)), (1, .int (31 : Int32))] [] m _
  exact y_ret rfl rfl rfl rfl (⟨rfl, rfl⟩)
set_option maxRecDepth 20000 in
/-- StringLatin1.charAt of constant 8 -/
theorem c26_8 (xs : List Int32) (d : Nat) (m : yM) (k : Nat) (hk : k < 31) : yC (xg xs) (d + 2) 26 [.retAddr 68, .int (nI k)] m (fun r m' => r = some (.int (xsb_8.getD k 0)) ∧ m' = m) := by
  refine y_st rfl rfl rfl rfl rfl (fun _ _ => rfl) ?_
  refine y_st rfl rfl rfl rfl rfl (fun _ _ => rfl) ?_
  refine y_st rfl rfl rfl rfl rfl (fun _ _ => rfl) ?_
  show yP (xg xs) (d + 2) 26 3 [(0, .retAddr 68), (1, .int (nI k))] [.int (31 : Int32), .int (nI k)] m _
  refine y_call rfl rfl rfl rfl rfl (Nat.le_of_ble_eq_true rfl) (Nat.le_of_ble_eq_true rfl) rfl (by decide) (c27_8 xs d m k hk) (fun v1 m1 q1 => ?_)
  obtain ⟨rfl, e1⟩ := q1; rw [e1]; clear e1
  refine y_st rfl rfl rfl rfl rfl (fun _ _ => rfl) ?_
  refine y_st rfl rfl rfl rfl rfl (fun _ _ => rfl) ?_
  show yP (xg xs) (d + 2) 26 8 [(0, .retAddr 68), (1, .int (nI k))] [.int (nI k), .retAddr 68] m _
  refine y_cbald rfl rfl rfl (by rw [xl_8]; exact x_in_nI hk (by decide)) ?_
  refine y_st rfl rfl rfl rfl rfl (fun _ _ => rfl) ?_
  refine y_st rfl rfl rfl rfl rfl (fun _ _ => rfl) ?_
  refine y_st rfl rfl rfl rfl rfl (fun _ _ => rfl) ?_
  show yP (xg xs) (d + 2) 26 14 [(0, .retAddr 68), (1, .int (nI k))] [.int (((((xsb_8).getD (nI k).toNatClampNeg 0) &&& (255 : Int32)).toUInt32 % 65536).toInt32)] m _
  exact y_cret rfl rfl rfl (pk_nc _) (by rw [nI_clamp (by omega), (ch_8 k hk).1]; exact ⟨rfl, rfl⟩)
set_option maxRecDepth 20000 in
/-- String.charAt of constant 8 -/
theorem c24_8 (xs : List Int32) (d : Nat) (m : yM) (k : Nat) (hk : k < 31) : yC (xg xs) (d + 3) 24 [.retAddr 28, .int (nI k)] m (fun r m' => r = some (.int (xsb_8.getD k 0)) ∧ m' = m) := by
  refine y_st rfl rfl rfl rfl rfl (fun _ _ => rfl) ?_
  show yP (xg xs) (d + 3) 24 1 [(0, .retAddr 28), (1, .int (nI k))] [.retAddr 28] m _
  refine y_call rfl rfl rfl rfl rfl (Nat.le_of_ble_eq_true rfl) (Nat.le_of_ble_eq_true rfl) rfl (by decide) (yC.mono (Nat.zero_le _) (fun _ _ z => z) (c25_8 xs 0 m)) (fun v1 m1 q1 => ?_)
  obtain ⟨rfl, e1⟩ := q1; rw [e1]; clear e1
  show yP (xg xs) (d + 3) 24 4 [(0, .retAddr 28), (1, .int (nI k))] [.int (1 : Int32)] m _
  refine y_zeq (t := 16) rfl rfl rfl (fun h4 => ?_) (fun h4 => ?_)
  · exact absurd h4 (by decide)
  · refine y_st rfl rfl rfl rfl rfl (fun _ _ => rfl) ?_
    refine y_st rfl rfl rfl rfl rfl (fun _ _ => rfl) ?_
    refine y_st rfl rfl rfl rfl rfl (fun _ _ => rfl) ?_
    show yP (xg xs) (d + 3) 24 12 [(0, .retAddr 28), (1, .int (nI k))] [.int (nI k), .retAddr 68] m _
    refine y_call rfl rfl rfl rfl rfl (Nat.le_of_ble_eq_true rfl) (Nat.le_of_ble_eq_true rfl) rfl (by decide) (c26_8 xs d m k hk) (fun v2 m2 q2 => ?_)
    obtain ⟨rfl, e2⟩ := q2; rw [e2]; clear e2
    show yP (xg xs) (d + 3) 24 15 [(0, .retAddr 28), (1, .int (nI k))] [.int (xsb_8.getD k 0)] m _
    exact y_cret rfl rfl rfl (cc_8 hk) (⟨rfl, rfl⟩)
theorem xl_9 : xsb_9.length = 32 := by decide +kernel
/-- letters of the alphabet are what they are as chars and bytes -/
theorem ch_9 : ∀ i, i < 32 → ((xsb_9.getD i 0 &&& 255).toUInt32 % 65536).toInt32 = xsb_9.getD i 0 ∧ (xsb_9.getD i 0).toInt8.toInt32 = xsb_9.getD i 0 := by decide +kernel
theorem cc_9 {i : Nat} (h : i < 32) : narrow .char (.int (xsb_9.getD i 0)) = .int (xsb_9.getD i 0) := by rw [← (ch_9 i h).1]; exact pk_nc _
set_option maxRecDepth 20000 in
/-- String.coder of constant 9 -/
theorem c23_9 (xs : List Int32) (d : Nat) (m : yM)  : yC (xg xs) d 23 [.retAddr 29] m (fun r m' => r = some (.int 0) ∧ m' = m) := by
  refine y_st rfl rfl rfl rfl rfl (fun _ _ => rfl) ?_
  show yP (xg xs) d 23 3 [(0, .retAddr 29)] [.int (1 : Int32)] m _
  refine y_zeq (t := 13) rfl rfl rfl (fun h3 => ?_) (fun h3 => ?_)
  · exact absurd h3 (by decide)
  · refine y_st rfl rfl rfl rfl rfl (fun _ _ => rfl) ?_
    refine y_st rfl rfl rfl rfl rfl (fun _ _ => rfl) ?_
    refine y_st rfl rfl rfl rfl rfl (fun _ _ => rfl) ?_
    show yP (xg xs) d 23 14 [(0, .retAddr 29)] [.int (0 : Int32)] m _
    exact y_ret rfl rfl rfl rfl (⟨rfl, rfl⟩)
set_option maxRecDepth 20000 in
/-- String.length of constant 9 -/
theorem c22_9 (xs : List Int32) (d : Nat) (m : yM)  : yC (xg xs) (d + 1) 22 [.retAddr 29] m (fun r m' => r = some (.int 32) ∧ m' = m) := by
  refine y_st rfl rfl rfl rfl rfl (fun _ _ => rfl) ?_
  refine y_st rfl rfl rfl rfl rfl (fun _ _ => rfl) ?_
  refine y_st rfl rfl rfl rfl rfl (fun _ _ => rfl) ?_
  refine y_st rfl rfl rfl rfl rfl (fun _ _ => rfl) ?_
  show yP (xg xs) (d + 1) 22 6 [(0, .retAddr 29)] [.retAddr 29, .int (32 : Int32)] m _
  refine y_call rfl rfl rfl rfl rfl (Nat.le_of_ble_eq_true rfl) (Nat.le_of_ble_eq_true rfl) rfl (by decide) (c23_9 xs d m) (fun v1 m1 q1 => ?_)
  obtain ⟨rfl, e1⟩ := q1; rw [e1]; clear e1
  refine y_st rfl rfl rfl rfl rfl (fun _ _ => rfl) ?_
  show yP (xg xs) (d + 1) 22 10 [(0, .retAddr 29)] [.int ((32 : Int32) >>> ((0 : Int32) &&& 31))] m _
  exact y_iret rfl rfl rfl (⟨congrArg (fun z => some (Value.int z)) (by decide), rfl⟩)
set_option maxRecDepth 20000 in
/-- String.isLatin1 of constant 9 -/
theorem c25_9 (xs : List Int32) (d : Nat) (m : yM)  : yC (xg xs) d 25 [.retAddr 29] m (fun r m' => r = some (.int 1) ∧ m' = m) := by
  refine y_st rfl rfl rfl rfl rfl (fun _ _ => rfl) ?_
  show yP (xg xs) d 25 3 [(0, .retAddr 29)] [.int (1 : Int32)] m _
  refine y_zeq (t := 17) rfl rfl rfl (fun h3 => ?_) (fun h3 => ?_)
  · exact absurd h3 (by decide)
  · refine y_st rfl rfl rfl rfl rfl (fun _ _ => rfl) ?_
    refine y_st rfl rfl rfl rfl rfl (fun _ _ => rfl) ?_
    show yP (xg xs) d 25 10 [(0, .retAddr 29)] [.int (0 : Int32)] m _
    refine y_zne (t := 17) rfl rfl rfl (fun h10 => ?_) (fun h10 => ?_)
    · exact absurd h10 (by decide)
    · refine y_st rfl rfl rfl rfl rfl (fun _ _ => rfl) ?_
      refine y_st rfl rfl rfl rfl rfl (fun _ _ => rfl) ?_
      show yP (xg xs) d 25 18 [(0, .retAddr 29)] [.int (1 : Int32)] m _
      exact y_zret rfl rfl rfl (by decide) (⟨rfl, rfl⟩)
set_option maxRecDepth 20000 in
/-- Preconditions.checkIndex -/
theorem c28_9 (xs : List Int32) (d : Nat) (m : yM) (k : Nat) (hk : k < 32) : yC (xg xs) d 28 [.int (nI k), .int (32 : Int32), .retAddr 0] m (fun r m' => r = some (.int (nI k)) ∧ m' = m) := by
  refine y_st rfl rfl rfl rfl rfl (fun _ _ => rfl) ?_
  show yP (xg xs) d 28 1 [(0, .int (nI k)), (1, .int (32 : Int32)), (2, .retAddr 0)] [.int (nI k)] m _
  refine y_zlt (t := 9) rfl rfl rfl (fun h1 => ?_) (fun h1 => ?_)
  · exact absurd h1 (nI_pos (by omega))
  · refine y_st rfl rfl rfl rfl rfl (fun _ _ => rfl) ?_
    refine y_st rfl rfl rfl rfl rfl (fun _ _ => rfl) ?_
    show yP (xg xs) d 28 6 [(0, .int (nI k)), (1, .int (32 : Int32)), (2, .retAddr 0)] [.int (32 : Int32), .int (nI k)] m _
    refine y_ilt (t := 16) rfl rfl rfl (fun h6 => ?_) (fun h6 => ?_)
    · refine y_st rfl rfl rfl rfl rfl (fun _ _ => rfl) ?_
      show yP (xg xs) d 28 17 [(0, .int (nI k)), (1, .int (32 : Int32)), (2, .retAddr 0)] [.int (nI k)] m _
      exact y_iret rfl rfl rfl (⟨rfl, rfl⟩)
    · exact absurd (nI_lt (b := 32) hk (by decide)) h6
set_option maxRecDepth 20000 in
/-- String.checkIndex -/
theorem c27_9 (xs : List Int32) (d : Nat) (m : yM) (k : Nat) (hk : k < 32) : yC (xg xs) (d + 1) 27 [.int (nI k), .int (32 : Int32)] m (fun r m' => r = none ∧ m' = m) := by
  refine y_st rfl rfl rfl rfl rfl (fun _ _ => rfl) ?_
  refine y_st rfl rfl rfl rfl rfl (fun _ _ => rfl) ?_
  refine y_st rfl rfl rfl rfl rfl (fun _ _ => rfl) ?_
  show yP (xg xs) (d + 1) 27 5 [(0, .int (nI k)), (1, .int (32 : Int32))] [.retAddr 0, .int (32 : Int32), .int (nI k)] m _
  refine y_call rfl rfl rfl rfl rfl (Nat.le_of_ble_eq_true rfl) (Nat.le_of_ble_eq_true rfl) rfl (by decide) (c28_9 xs d m k hk) (fun v1 m1 q1 => ?_)
  obtain ⟨rfl, e1⟩ := q1; rw [e1]; clear e1
  refine y_st rfl rfl rfl rfl rfl (fun _ _ => rfl) ?_
  show yP (xg xs) (d + 1) 27 9 [(0, .int (nI k)), (1, .int (32 : Int32))] [] m _
  exact y_ret rfl rfl rfl rfl (⟨rfl, rfl⟩)
set_option maxRecDepth 20000 in
/-- StringLatin1.charAt of constant 9 -/
theorem c26_9 (xs : List Int32) (d : Nat) (m : yM) (k : Nat) (hk : k < 32) : yC (xg xs) (d + 2) 26 [.retAddr 69, .int (nI k)] m (fun r m' => r = some (.int (xsb_9.getD k 0)) ∧ m' = m) := by
  refine y_st rfl rfl rfl rfl rfl (fun _ _ => rfl) ?_
  refine y_st rfl rfl rfl rfl rfl (fun _ _ => rfl) ?_
  refine y_st rfl rfl rfl rfl rfl (fun _ _ => rfl) ?_
  show yP (xg xs) (d + 2) 26 3 [(0, .retAddr 69), (1, .int (nI k))] [.int (32 : Int32), .int (nI k)] m _
  refine y_call rfl rfl rfl rfl rfl (Nat.le_of_ble_eq_true rfl) (Nat.le_of_ble_eq_true rfl) rfl (by decide) (c27_9 xs d m k hk) (fun v1 m1 q1 => ?_)
  obtain ⟨rfl, e1⟩ := q1; rw [e1]; clear e1
  refine y_st rfl rfl rfl rfl rfl (fun _ _ => rfl) ?_
  refine y_st rfl rfl rfl rfl rfl (fun _ _ => rfl) ?_
  show yP (xg xs) (d + 2) 26 8 [(0, .retAddr 69), (1, .int (nI k))] [.int (nI k), .retAddr 69] m _
  refine y_cbald rfl rfl rfl (by rw [xl_9]; exact x_in_nI hk (by decide)) ?_
  refine y_st rfl rfl rfl rfl rfl (fun _ _ => rfl) ?_
  refine y_st rfl rfl rfl rfl rfl (fun _ _ => rfl) ?_
  refine y_st rfl rfl rfl rfl rfl (fun _ _ => rfl) ?_
  show yP (xg xs) (d + 2) 26 14 [(0, .retAddr 69), (1, .int (nI k))] [.int (((((xsb_9).getD (nI k).toNatClampNeg 0) &&& (255 : Int32)).toUInt32 % 65536).toInt32)] m _
  exact y_cret rfl rfl rfl (pk_nc _) (by rw [nI_clamp (by omega), (ch_9 k hk).1]; exact ⟨rfl, rfl⟩)
set_option maxRecDepth 20000 in
/-- String.charAt of constant 9 -/
theorem c24_9 (xs : List Int32) (d : Nat) (m : yM) (k : Nat) (hk : k < 32) : yC (xg xs) (d + 3) 24 [.retAddr 29, .int (nI k)] m (fun r m' => r = some (.int (xsb_9.getD k 0)) ∧ m' = m) := by
  refine y_st rfl rfl rfl rfl rfl (fun _ _ => rfl) ?_
  show yP (xg xs) (d + 3) 24 1 [(0, .retAddr 29), (1, .int (nI k))] [.retAddr 29] m _
  refine y_call rfl rfl rfl rfl rfl (Nat.le_of_ble_eq_true rfl) (Nat.le_of_ble_eq_true rfl) rfl (by decide) (yC.mono (Nat.zero_le _) (fun _ _ z => z) (c25_9 xs 0 m)) (fun v1 m1 q1 => ?_)
  obtain ⟨rfl, e1⟩ := q1; rw [e1]; clear e1
  show yP (xg xs) (d + 3) 24 4 [(0, .retAddr 29), (1, .int (nI k))] [.int (1 : Int32)] m _
  refine y_zeq (t := 16) rfl rfl rfl (fun h4 => ?_) (fun h4 => ?_)
  · exact absurd h4 (by decide)
  · refine y_st rfl rfl rfl rfl rfl (fun _ _ => rfl) ?_
    refine y_st rfl rfl rfl rfl rfl (fun _ _ => rfl) ?_
    refine y_st rfl rfl rfl rfl rfl (fun _ _ => rfl) ?_
    show yP (xg xs) (d + 3) 24 12 [(0, .retAddr 29), (1, .int (nI k))] [.int (nI k), .retAddr 69] m _
    refine y_call rfl rfl rfl rfl rfl (Nat.le_of_ble_eq_true rfl) (Nat.le_of_ble_eq_true rfl) rfl (by decide) (c26_9 xs d m k hk) (fun v2 m2 q2 => ?_)
    obtain ⟨rfl, e2⟩ := q2; rw [e2]; clear e2
    show yP (xg xs) (d + 3) 24 15 [(0, .retAddr 29), (1, .int (nI k))] [.int (xsb_9.getD k 0)] m _
    exact y_cret rfl rfl rfl (cc_9 hk) (⟨rfl, rfl⟩)
theorem xl_10 : xsb_10.length = 15 := by decide +kernel
/-- letters of the alphabet are what they are as chars and bytes -/
theorem ch_10 : ∀ i, i < 15 → ((xsb_10.getD i 0 &&& 255).toUInt32 % 65536).toInt32 = xsb_10.getD i 0 ∧ (xsb_10.getD i 0).toInt8.toInt32 = xsb_10.getD i 0 := by decide +kernel
theorem cc_10 {i : Nat} (h : i < 15) : narrow .char (.int (xsb_10.getD i 0)) = .int (xsb_10.getD i 0) := by rw [← (ch_10 i h).1]; exact pk_nc _
set_option maxRecDepth 20000 in
/-- String.coder of constant 10 -/
theorem c23_10 (xs : List Int32) (d : Nat) (m : yM)  : yC (xg xs) d 23 [.retAddr 30] m (fun r m' => r = some (.int 0) ∧ m' = m) := by
  refine y_st rfl rfl rfl rfl rfl (fun _ _ => rfl) ?_
  show yP (xg xs) d 23 3 [(0, .retAddr 30)] [.int (1 : Int32)] m _
  refine y_zeq (t := 13) rfl rfl rfl (fun h3 => ?_) (fun h3 => ?_)
  · exact absurd h3 (by decide)
  · refine y_st rfl rfl rfl rfl rfl (fun _ _ => rfl) ?_
    refine y_st rfl rfl rfl rfl rfl (fun _ _ => rfl) ?_
    refine y_st rfl rfl rfl rfl rfl (fun _ _ => rfl) ?_
    show yP (xg xs) d 23 14 [(0, .retAddr 30)] [.int (0 : Int32)] m _
    exact y_ret rfl rfl rfl rfl (⟨rfl, rfl⟩)
set_option maxRecDepth 20000 in
/-- String.length of constant 10 -/
theorem c22_10 (xs : List Int32) (d : Nat) (m : yM)  : yC (xg xs) (d + 1) 22 [.retAddr 30] m (fun r m' => r = some (.int 15) ∧ m' = m) := by
  refine y_st rfl rfl rfl rfl rfl (fun _ _ => rfl) ?_
  refine y_st rfl rfl rfl rfl rfl (fun _ _ => rfl) ?_
  refine y_st rfl rfl rfl rfl rfl (fun _ _ => rfl) ?_
  refine y_st rfl rfl rfl rfl rfl (fun _ _ => rfl) ?_
  show yP (xg xs) (d + 1) 22 6 [(0, .retAddr 30)] [.retAddr 30, .int (15 : Int32)] m _
  refine y_call rfl rfl rfl rfl rfl (Nat.le_of_ble_eq_true rfl) (Nat.le_of_ble_eq_true rfl) rfl (by decide) (c23_10 xs d m) (fun v1 m1 q1 => ?_)
  obtain ⟨rfl, e1⟩ := q1; rw [e1]; clear e1
  refine y_st rfl rfl rfl rfl rfl (fun _ _ => rfl) ?_
  show yP (xg xs) (d + 1) 22 10 [(0, .retAddr 30)] [.int ((15 : Int32) >>> ((0 : Int32) &&& 31))] m _
  exact y_iret rfl rfl rfl (⟨congrArg (fun z => some (Value.int z)) (by decide), rfl⟩)
set_option maxRecDepth 20000 in
/-- String.isLatin1 of constant 10 -/
theorem c25_10 (xs : List Int32) (d : Nat) (m : yM)  : yC (xg xs) d 25 [.retAddr 30] m (fun r m' => r = some (.int 1) ∧ m' = m) := by
  refine y_st rfl rfl rfl rfl rfl (fun _ _ => rfl) ?_
  show yP (xg xs) d 25 3 [(0, .retAddr 30)] [.int (1 : Int32)] m _
  refine y_zeq (t := 17) rfl rfl rfl (fun h3 => ?_) (fun h3 => ?_)
  · exact absurd h3 (by decide)
  · refine y_st rfl rfl rfl rfl rfl (fun _ _ => rfl) ?_
    refine y_st rfl rfl rfl rfl rfl (fun _ _ => rfl) ?_
    show yP (xg xs) d 25 10 [(0, .retAddr 30)] [.int (0 : Int32)] m _
    refine y_zne (t := 17) rfl rfl rfl (fun h10 => ?_) (fun h10 => ?_)
    · exact absurd h10 (by decide)
    · refine y_st rfl rfl rfl rfl rfl (fun _ _ => rfl) ?_
      refine y_st rfl rfl rfl rfl rfl (fun _ _ => rfl) ?_
      show yP (xg xs) d 25 18 [(0, .retAddr 30)] [.int (1 : Int32)] m _
      exact y_zret rfl rfl rfl (by decide) (⟨rfl, rfl⟩)
set_option maxRecDepth 20000 in
/-- Preconditions.checkIndex -/
theorem c28_10 (xs : List Int32) (d : Nat) (m : yM) (k : Nat) (hk : k < 15) : yC (xg xs) d 28 [.int (nI k), .int (15 : Int32), .retAddr 0] m (fun r m' => r = some (.int (nI k)) ∧ m' = m) := by
  refine y_st rfl rfl rfl rfl rfl (fun _ _ => rfl) ?_
  show yP (xg xs) d 28 1 [(0, .int (nI k)), (1, .int (15 : Int32)), (2, .retAddr 0)] [.int (nI k)] m _
  refine y_zlt (t := 9) rfl rfl rfl (fun h1 => ?_) (fun h1 => ?_)
  · exact absurd h1 (nI_pos (by omega))
  · refine y_st rfl rfl rfl rfl rfl (fun _ _ => rfl) ?_
    refine y_st rfl rfl rfl rfl rfl (fun _ _ => rfl) ?_
    show yP (xg xs) d 28 6 [(0, .int (nI k)), (1, .int (15 : Int32)), (2, .retAddr 0)] [.int (15 : Int32), .int (nI k)] m _
    refine y_ilt (t := 16) rfl rfl rfl (fun h6 => ?_) (fun h6 => ?_)
    · refine y_st rfl rfl rfl rfl rfl (fun _ _ => rfl) ?_
      show yP (xg xs) d 28 17 [(0, .int (nI k)), (1, .int (15 : Int32)), (2, .retAddr 0)] [.int (nI k)] m _
      exact y_iret rfl rfl rfl (⟨rfl, rfl⟩)
    · exact absurd (nI_lt (b := 15) hk (by decide)) h6
set_option maxRecDepth 20000 in
/-- String.checkIndex -/
theorem c27_10 (xs : List Int32) (d : Nat) (m : yM) (k : Nat) (hk : k < 15) : yC (xg xs) (d + 1) 27 [.int (nI k), .int (15 : Int32)] m (fun r m' => r = none ∧ m' = m) := by
  refine y_st rfl rfl rfl rfl rfl (fun _ _ => rfl) ?_
  refine y_st rfl rfl rfl rfl rfl (fun _ _ => rfl) ?_
  refine y_st rfl rfl rfl rfl rfl (fun _ _ => rfl) ?_
  show yP (xg xs) (d + 1) 27 5 [(0, .int (nI k)), (1, .int (15 : Int32))] [.retAddr 0, .int (15 : Int32), .int (nI k)] m _
  refine y_call rfl rfl rfl rfl rfl (Nat.le_of_ble_eq_true rfl) (Nat.le_of_ble_eq_true rfl) rfl (by decide) (c28_10 xs d m k hk) (fun v1 m1 q1 => ?_)
  obtain ⟨rfl, e1⟩ := q1; rw [e1]; clear e1
  refine y_st rfl rfl rfl rfl rfl (fun _ _ => rfl) ?_
  show yP (xg xs) (d + 1) 27 9 [(0, .int (nI k)), (1, .int (15 : Int32))] [] m _
  exact y_ret rfl rfl rfl rfl (⟨rfl, rfl⟩)
set_option maxRecDepth 20000 in
/-- StringLatin1.charAt of constant 10 -/
theorem c26_10 (xs : List Int32) (d : Nat) (m : yM) (k : Nat) (hk : k < 15) : yC (xg xs) (d + 2) 26 [.retAddr 70, .int (nI k)] m (fun r m' => r = some (.int (xsb_10.getD k 0)) ∧ m' = m) := by
  refine y_st rfl rfl rfl rfl rfl (fun _ _ => rfl) ?_
  refine y_st rfl rfl rfl rfl rfl (fun _ _ => rfl) ?_
  refine y_st rfl rfl rfl rfl rfl (fun _ _ => rfl) ?_
  show yP (xg xs) (d + 2) 26 3 [(0, .retAddr 70), (1, .int (nI k))] [.int (15 : Int32), .int (nI k)] m _
  refine y_call rfl rfl rfl rfl rfl (Nat.le_of_ble_eq_true rfl) (Nat.le_of_ble_eq_true rfl) rfl (by decide) (c27_10 xs d m k hk) (fun v1 m1 q1 => ?_)
  obtain ⟨rfl, e1⟩ := q1; rw [e1]; clear e1
  refine y_st rfl rfl rfl rfl rfl (fun _ _ => rfl) ?_
  refine y_st rfl rfl rfl rfl rfl (fun _ _ => rfl) ?_
  show yP (xg xs) (d + 2) 26 8 [(0, .retAddr 70), (1, .int (nI k))] [.int (nI k), .retAddr 70] m _
  refine y_cbald rfl rfl rfl (by rw [xl_10]; exact x_in_nI hk (by decide)) ?_
  refine y_st rfl rfl rfl rfl rfl (fun _ _ => rfl) ?_
  refine y_st rfl rfl rfl rfl rfl (fun _ _ => rfl) ?_
  refine y_st rfl rfl rfl rfl rfl (fun _ _ => rfl) ?_
  show yP (xg xs) (d + 2) 26 14 [(0, .retAddr 70), (1, .int (nI k))] [.int (((((xsb_10).getD (nI k).toNatClampNeg 0) &&& (255 : Int32)).toUInt32 % 65536).toInt32)] m _
  exact y_cret rfl rfl rfl (pk_nc _) (by rw [nI_clamp (by omega), (ch_10 k hk).1]; exact ⟨rfl, rfl⟩)
set_option maxRecDepth 20000 in
/-- String.charAt of constant 10 -/
theorem c24_10 (xs : List Int32) (d : Nat) (m : yM) (k : Nat) (hk : k < 15) : yC (xg xs) (d + 3) 24 [.retAddr 30, .int (nI k)] m (fun r m' => r = some (.int (xsb_10.getD k 0)) ∧ m' = m) := by
  refine y_st rfl rfl rfl rfl rfl (fun _ _ => rfl) ?_
  show yP (xg xs) (d + 3) 24 1 [(0, .retAddr 30), (1, .int (nI k))] [.retAddr 30] m _
  refine y_call rfl rfl rfl rfl rfl (Nat.le_of_ble_eq_true rfl) (Nat.le_of_ble_eq_true rfl) rfl (by decide) (yC.mono (Nat.zero_le _) (fun _ _ z => z) (c25_10 xs 0 m)) (fun v1 m1 q1 => ?_)
  obtain ⟨rfl, e1⟩ := q1; rw [e1]; clear e1
  show yP (xg xs) (d + 3) 24 4 [(0, .retAddr 30), (1, .int (nI k))] [.int (1 : Int32)] m _
  refine y_zeq (t := 16) rfl rfl rfl (fun h4 => ?_) (fun h4 => ?_)
  · exact absurd h4 (by decide)
  · refine y_st rfl rfl rfl rfl rfl (fun _ _ => rfl) ?_
    refine y_st rfl rfl rfl rfl rfl (fun _ _ => rfl) ?_
    refine y_st rfl rfl rfl rfl rfl (fun _ _ => rfl) ?_
    show yP (xg xs) (d + 3) 24 12 [(0, .retAddr 30), (1, .int (nI k))] [.int (nI k), .retAddr 70] m _
    refine y_call rfl rfl rfl rfl rfl (Nat.le_of_ble_eq_true rfl) (Nat.le_of_ble_eq_true rfl) rfl (by decide) (c26_10 xs d m k hk) (fun v2 m2 q2 => ?_)
    obtain ⟨rfl, e2⟩ := q2; rw [e2]; clear e2
    show yP (xg xs) (d + 3) 24 15 [(0, .retAddr 30), (1, .int (nI k))] [.int (xsb_10.getD k 0)] m _
    exact y_cret rfl rfl rfl (cc_10 hk) (⟨rfl, rfl⟩)
theorem xl_11 : xsb_11.length = 20 := by decide +kernel
/-- letters of the alphabet are what they are as chars and bytes -/
theorem ch_11 : ∀ i, i < 20 → ((xsb_11.getD i 0 &&& 255).toUInt32 % 65536).toInt32 = xsb_11.getD i 0 ∧ (xsb_11.getD i 0).toInt8.toInt32 = xsb_11.getD i 0 := by decide +kernel
theorem cc_11 {i : Nat} (h : i < 20) : narrow .char (.int (xsb_11.getD i 0)) = .int (xsb_11.getD i 0) := by rw [← (ch_11 i h).1]; exact pk_nc _
set_option maxRecDepth 20000 in
/-- String.coder of constant 11 -/
theorem c23_11 (xs : List Int32) (d : Nat) (m : yM)  : yC (xg xs) d 23 [.retAddr 31] m (fun r m' => r = some (.int 0) ∧ m' = m) := by
  refine y_st rfl rfl rfl rfl rfl (fun _ _ => rfl) ?_
  show yP (xg xs) d 23 3 [(0, .retAddr 31)] [.int (1 : Int32)] m _
  refine y_zeq (t := 13) rfl rfl rfl (fun h3 => ?_) (fun h3 => ?_)
  · exact absurd h3 (by decide)
  · refine y_st rfl rfl rfl rfl rfl (fun _ _ => rfl) ?_
    refine y_st rfl rfl rfl rfl rfl (fun _ _ => rfl) ?_
    refine y_st rfl rfl rfl rfl rfl (fun _ _ => rfl) ?_
    show yP (xg xs) d 23 14 [(0, .retAddr 31)] [.int (0 : Int32)] m _
    exact y_ret rfl rfl rfl rfl (⟨rfl, rfl⟩)
set_option maxRecDepth 20000 in
/-- String.length of constant 11 -/
theorem c22_11 (xs : List Int32) (d : Nat) (m : yM)  : yC (xg xs) (d + 1) 22 [.retAddr 31] m (fun r m' => r = some (.int 20) ∧ m' = m) := by
  refine y_st rfl rfl rfl rfl rfl (fun _ _ => rfl) ?_
  refine y_st rfl rfl rfl rfl rfl (fun _ _ => rfl) ?_
  refine y_st rfl rfl rfl rfl rfl (fun _ _ => rfl) ?_
  refine y_st rfl rfl rfl rfl rfl (fun _ _ => rfl) ?_
  show yP (xg xs) (d + 1) 22 6 [(0, .retAddr 31)] [.retAddr 31, .int (20 : Int32)] m _
  refine y_call rfl rfl rfl rfl rfl (Nat.le_of_ble_eq_true rfl) (Nat.le_of_ble_eq_true rfl) rfl (by decide) (c23_11 xs d m) (fun v1 m1 q1 => ?_)
  obtain ⟨rfl, e1⟩ := q1; rw [e1]; clear e1
  refine y_st rfl rfl rfl rfl rfl (fun _ _ => rfl) ?_
  show yP (xg xs) (d + 1) 22 10 [(0, .retAddr 31)] [.int ((20 : Int32) >>> ((0 : Int32) &&& 31))] m _
  exact y_iret rfl rfl rfl (⟨congrArg (fun z => some (Value.int z)) (by decide), rfl⟩)
set_option maxRecDepth 20000 in
/-- String.isLatin1 of constant 11 -/
theorem c25_11 (xs : List Int32) (d : Nat) (m : yM)  : yC (xg xs) d 25 [.retAddr 31] m (fun r m' => r = some (.int 1) ∧ m' = m) := by
  refine y_st rfl rfl rfl rfl rfl (fun _ _ => rfl) ?_
  show yP (xg xs) d 25 3 [(0, .retAddr 31)] [.int (1 : Int32)] m _
  refine y_zeq (t := 17) rfl rfl rfl (fun h3 => ?_) (fun h3 => ?_)
  · exact absurd h3 (by decide)
  · refine y_st rfl rfl rfl rfl rfl (fun _ _ => rfl) ?_
    refine y_st rfl rfl rfl rfl rfl (fun _ _ => rfl) ?_
    show yP (xg xs) d 25 10 [(0, .retAddr 31)] [.int (0 : Int32)] m _
    refine y_zne (t := 17) rfl rfl rfl (fun h10 => ?_) (fun h10 => ?_)
    · exact absurd h10 (by decide)
    · refine y_st rfl rfl rfl rfl rfl (fun _ _ => rfl) ?_
      refine y_st rfl rfl rfl rfl rfl (fun _ _ => rfl) ?_
      show yP (xg xs) d 25 18 [(0, .retAddr 31)] [.int (1 : Int32)] m _
      exact y_zret rfl rfl rfl (by decide) (⟨rfl, rfl⟩)
set_option maxRecDepth 20000 in
/-- Preconditions.checkIndex -/
theorem c28_11 (xs : List Int32) (d : Nat) (m : yM) (k : Nat) (hk : k < 20) : yC (xg xs) d 28 [.int (nI k), .int (20 : Int32), .retAddr 0] m (fun r m' => r = some (.int (nI k)) ∧ m' = m) := by
  refine y_st rfl rfl rfl rfl rfl (fun _ _ => rfl) ?_
  show yP (xg xs) d 28 1 [(0, .int (nI k)), (1, .int (20 : Int32)), (2, .retAddr 0)] [.int (nI k)] m _
  refine y_zlt (t := 9) rfl rfl rfl (fun h1 => ?_) (fun h1 => ?_)
  · exact absurd h1 (nI_pos (by omega))
  · refine y_st rfl rfl rfl rfl rfl (fun _ _ => rfl) ?_
    refine y_st rfl rfl rfl rfl rfl (fun _ _ => rfl) ?_
    show yP (xg xs) d 28 6 [(0, .int (nI k)), (1, .int (20 : Int32)), (2, .retAddr 0)] [.int (20 : Int32), .int (nI k)] m _
    refine y_ilt (t := 16) rfl rfl rfl (fun h6 => ?_) (fun h6 => ?_)
    · refine y_st rfl rfl rfl rfl rfl (fun _ _ => rfl) ?_
      show yP (xg xs) d 28 17 [(0, .int (nI k)), (1, .int (20 : Int32)), (2, .retAddr 0)] [.int (nI k)] m _
      exact y_iret rfl rfl rfl (⟨rfl, rfl⟩)
    · exact absurd (nI_lt (b := 20) hk (by decide)) h6
set_option maxRecDepth 20000 in
/-- String.checkIndex -/
theorem c27_11 (xs : List Int32) (d : Nat) (m : yM) (k : Nat) (hk : k < 20) : yC (xg xs) (d + 1) 27 [.int (nI k), .int (20 : Int32)] m (fun r m' => r = none ∧ m' = m) := by
  refine y_st rfl rfl rfl rfl rfl (fun _ _ => rfl) ?_
  refine y_st rfl rfl rfl rfl rfl (fun _ _ => rfl) ?_
  refine y_st rfl rfl rfl rfl rfl (fun _ _ => rfl) ?_
  show yP (xg xs) (d + 1) 27 5 [(0, .int (nI k)), (1, .int (20 : Int32))] [.retAddr 0, .int (20 : Int32), .int (nI k)] m _
  refine y_call rfl rfl rfl rfl rfl (Nat.le_of_ble_eq_true rfl) (Nat.le_of_ble_eq_true rfl) rfl (by decide) (c28_11 xs d m k hk) (fun v1 m1 q1 => ?_)
  obtain ⟨rfl, e1⟩ := q1; rw [e1]; clear e1
  refine y_st rfl rfl rfl rfl rfl (fun _ _ => rfl) ?_
  show yP (xg xs) (d + 1) 27 9 [(0, .int (nI k)), (1, .int (20 : Int32))] [] m _
  exact y_ret rfl rfl rfl rfl (⟨rfl, rfl⟩)
set_option maxRecDepth 20000 in
/-- StringLatin1.charAt of constant 11 -/
theorem c26_11 (xs : List Int32) (d : Nat) (m : yM) (k : Nat) (hk : k < 20) : yC (xg xs) (d + 2) 26 [.retAddr 71, .int (nI k)] m (fun r m' => r = some (.int (xsb_11.getD k 0)) ∧ m' = m) := by
  refine y_st rfl rfl rfl rfl rfl (fun _ _ => rfl) ?_
  refine y_st rfl rfl rfl rfl rfl (fun _ _ => rfl) ?_
  refine y_st rfl rfl rfl rfl rfl (fun _ _ => rfl) ?_
  show yP (xg xs) (d + 2) 26 3 [(0, .retAddr 71), (1, .int (nI k))] [.int (20 : Int32), .int (nI k)] m _
  refine y_call rfl rfl rfl rfl rfl (Nat.le_of_ble_eq_true rfl) (Nat.le_of_ble_eq_true rfl) rfl (by decide) (c27_11 xs d m k hk) (fun v1 m1 q1 => ?_)
  obtain ⟨rfl, e1⟩ := q1; rw [e1]; clear e1
  refine y_st rfl rfl rfl rfl rfl (fun _ _ => rfl) ?_
  refine y_st rfl rfl rfl rfl rfl (fun _ _ => rfl) ?_
  show yP (xg xs) (d + 2) 26 8 [(0, .retAddr 71), (1, .int (nI k))] [.int (nI k), .retAddr 71] m _
  refine y_cbald rfl rfl rfl (by rw [xl_11]; exact x_in_nI hk (by decide)) ?_
  refine y_st rfl rfl rfl rfl rfl (fun _ _ => rfl) ?_
  refine y_st rfl rfl rfl rfl rfl (fun _ _ => rfl) ?_
  refine y_st rfl rfl rfl rfl rfl (fun _ _ => rfl) ?_
  show yP (xg xs) (d + 2) 26 14 [(0, .retAddr 71), (1, .int (nI k))] [.int (((((xsb_11).getD (nI k).toNatClampNeg 0) &&& (255 : Int32)).toUInt32 % 65536).toInt32)] m _
  exact y_cret rfl rfl rfl (pk_nc _) (by rw [nI_clamp (by omega), (ch_11 k hk).1]; exact ⟨rfl, rfl⟩)
set_option maxRecDepth 20000 in
/-- String.charAt of constant 11 -/
theorem c24_11 (xs : List Int32) (d : Nat) (m : yM) (k : Nat) (hk : k < 20) : yC (xg xs) (d + 3) 24 [.retAddr 31, .int (nI k)] m (fun r m' => r = some (.int (xsb_11.getD k 0)) ∧ m' = m) := by
  refine y_st rfl rfl rfl rfl rfl (fun _ _ => rfl) ?_
  show yP (xg xs) (d + 3) 24 1 [(0, .retAddr 31), (1, .int (nI k))] [.retAddr 31] m _
  refine y_call rfl rfl rfl rfl rfl (Nat.le_of_ble_eq_true rfl) (Nat.le_of_ble_eq_true rfl) rfl (by decide) (yC.mono (Nat.zero_le _) (fun _ _ z => z) (c25_11 xs 0 m)) (fun v1 m1 q1 => ?_)
  obtain ⟨rfl, e1⟩ := q1; rw [e1]; clear e1
  show yP (xg xs) (d + 3) 24 4 [(0, .retAddr 31), (1, .int (nI k))] [.int (1 : Int32)] m _
  refine y_zeq (t := 16) rfl rfl rfl (fun h4 => ?_) (fun h4 => ?_)
  · exact absurd h4 (by decide)
  · refine y_st rfl rfl rfl rfl rfl (fun _ _ => rfl) ?_
    refine y_st rfl rfl rfl rfl rfl (fun _ _ => rfl) ?_
    refine y_st rfl rfl rfl rfl rfl (fun _ _ => rfl) ?_
    show yP (xg xs) (d + 3) 24 12 [(0, .retAddr 31), (1, .int (nI k))] [.int (nI k), .retAddr 71] m _
    refine y_call rfl rfl rfl rfl rfl (Nat.le_of_ble_eq_true rfl) (Nat.le_of_ble_eq_true rfl) rfl (by decide) (c26_11 xs d m k hk) (fun v2 m2 q2 => ?_)
    obtain ⟨rfl, e2⟩ := q2; rw [e2]; clear e2
    show yP (xg xs) (d + 3) 24 15 [(0, .retAddr 31), (1, .int (nI k))] [.int (xsb_11.getD k 0)] m _
    exact y_cret rfl rfl rfl (cc_11 hk) (⟨rfl, rfl⟩)
theorem xl_12 : xsb_12.length = 20 := by decide +kernel
/-- letters of the alphabet are what they are as chars and bytes -/
theorem ch_12 : ∀ i, i < 20 → ((xsb_12.getD i 0 &&& 255).toUInt32 % 65536).toInt32 = xsb_12.getD i 0 ∧ (xsb_12.getD i 0).toInt8.toInt32 = xsb_12.getD i 0 := by decide +kernel
theorem cc_12 {i : Nat} (h : i < 20) : narrow .char (.int (xsb_12.getD i 0)) = .int (xsb_12.getD i 0) := by rw [← (ch_12 i h).1]; exact pk_nc _
set_option maxRecDepth 20000 in
/-- String.coder of constant 12 -/
theorem c23_12 (xs : List Int32) (d : Nat) (m : yM)  : yC (xg xs) d 23 [.retAddr 32] m (fun r m' => r = some (.int 0) ∧ m' = m) := by
  refine y_st rfl rfl rfl rfl rfl (fun _ _ => rfl) ?_
  show yP (xg xs) d 23 3 [(0, .retAddr 32)] [.int (1 : Int32)] m _
  refine y_zeq (t := 13) rfl rfl rfl (fun h3 => ?_) (fun h3 => ?_)
  · exact absurd h3 (by decide)
  · refine y_st rfl rfl rfl rfl rfl (fun _ _ => rfl) ?_
    refine y_st rfl rfl rfl rfl rfl (fun _ _ => rfl) ?_
    refine y_st rfl rfl rfl rfl rfl (fun _ _ => rfl) ?_
    show yP (xg xs) d 23 14 [(0, .retAddr 32)] [.int (0 : Int32)] m _
    exact y_ret rfl rfl rfl rfl (⟨rfl, rfl⟩)
set_option maxRecDepth 20000 in
/-- String.length of constant 12 -/
theorem c22_12 (xs : List Int32) (d : Nat) (m : yM)  : yC (xg xs) (d + 1) 22 [.retAddr 32] m (fun r m' => r = some (.int 20) ∧ m' = m) := by
  refine y_st rfl rfl rfl rfl rfl (fun _ _ => rfl) ?_
  refine y_st rfl rfl rfl rfl rfl (fun _ _ => rfl) ?_
  refine y_st rfl rfl rfl rfl rfl (fun _ _ => rfl) ?_
  refine y_st rfl rfl rfl rfl rfl (fun _ _ => rfl) ?_
  show yP (xg xs) (d + 1) 22 6 [(0, .retAddr 32)] [.retAddr 32, .int (20 : Int32)] m _
  refine y_call rfl rfl rfl rfl rfl (Nat.le_of_ble_eq_true rfl) (Nat.le_of_ble_eq_true rfl) rfl (by decide) (c23_12 xs d m) (fun v1 m1 q1 => ?_)
  obtain ⟨rfl, e1⟩ := q1; rw [e1]; clear e1
  refine y_st rfl rfl rfl rfl rfl (fun _ _ => rfl) ?_
  show yP (xg xs) (d + 1) 22 10 [(0, .retAddr 32)] [.int ((20 : Int32) >>> ((0 : Int32) &&& 31))] m _
  exact y_iret rfl rfl rfl (⟨congrArg (fun z => some (Value.int z)) (by decide), rfl⟩)
set_option maxRecDepth 20000 in
/-- String.isLatin1 of constant 12 -/
theorem c25_12 (xs : List Int32) (d : Nat) (m : yM)  : yC (xg xs) d 25 [.retAddr 32] m (fun r m' => r = some (.int 1) ∧ m' = m) := by
  refine y_st rfl rfl rfl rfl rfl (fun _ _ => rfl) ?_
  show yP (xg xs) d 25 3 [(0, .retAddr 32)] [.int (1 : Int32)] m _
  refine y_zeq (t := 17) rfl rfl rfl (fun h3 => ?_) (fun h3 => ?_)
  · exact absurd h3 (by decide)
  · refine y_st rfl rfl rfl rfl rfl (fun _ _ => rfl) ?_
    refine y_st rfl rfl rfl rfl rfl (fun _ _ => rfl) ?_
    show yP (xg xs) d 25 10 [(0, .retAddr 32)] [.int (0 : Int32)] m _
    refine y_zne (t := 17) rfl rfl rfl (fun h10 => ?_) (fun h10 => ?_)
    · exact absurd h10 (by decide)
    · refine y_st rfl rfl rfl rfl rfl (fun _ _ => rfl) ?_
      refine y_st rfl rfl rfl rfl rfl (fun _ _ => rfl) ?_
      show yP (xg xs) d 25 18 [(0, .retAddr 32)] [.int (1 : Int32)] m _
      exact y_zret rfl rfl rfl (by decide) (⟨rfl, rfl⟩)
set_option maxRecDepth 20000 in
/-- Preconditions.checkIndex -/
theorem c28_12 (xs : List Int32) (d : Nat) (m : yM) (k : Nat) (hk : k < 20) : yC (xg xs) d 28 [.int (nI k), .int (20 : Int32), .retAddr 0] m (fun r m' => r = some (.int (nI k)) ∧ m' = m) := by
  refine y_st rfl rfl rfl rfl rfl (fun _ _ => rfl) ?_
  show yP (xg xs) d 28 1 [(0, .int (nI k)), (1, .int (20 : Int32)), (2, .retAddr 0)] [.int (nI k)] m _
  refine y_zlt (t := 9) rfl rfl rfl (fun h1 => ?_) (fun h1 => ?_)
  · exact absurd h1 (nI_pos (by omega))
  · refine y_st rfl rfl rfl rfl rfl (fun _ _ => rfl) ?_
    refine y_st rfl rfl rfl rfl rfl (fun _ _ => rfl) ?_
    show yP (xg xs) d 28 6 [(0, .int (nI k)), (1, .int (20 : Int32)), (2, .retAddr 0)] [.int (20 : Int32), .int (nI k)] m _
    refine y_ilt (t := 16) rfl rfl rfl (fun h6 => ?_) (fun h6 => ?_)
    · refine y_st rfl rfl rfl rfl rfl (fun _ _ => rfl) ?_
      show yP (xg xs) d 28 17 [(0, .int (nI k)), (1, .int (20 : Int32)), (2, .retAddr 0)] [.int (nI k)] m _
      exact y_iret rfl rfl rfl (⟨rfl, rfl⟩)
    · exact absurd (nI_lt (b := 20) hk (by decide)) h6
set_option maxRecDepth 20000 in
/-- String.checkIndex -/
theorem c27_12 (xs : List Int32) (d : Nat) (m : yM) (k : Nat) (hk : k < 20) : yC (xg xs) (d + 1) 27 [.int (nI k), .int (20 : Int32)] m (fun r m' => r = none ∧ m' = m) := by
  refine y_st rfl rfl rfl rfl rfl (fun _ _ => rfl) ?_
  refine y_st rfl rfl rfl rfl rfl (fun _ _ => rfl) ?_
  refine y_st rfl rfl rfl rfl rfl (fun _ _ => rfl) ?_
  show yP (xg xs) (d + 1) 27 5 [(0, .int (nI k)), (1, .int (20 : Int32))] [.retAddr 0, .int (20 : Int32), .int (nI k)] m _
  refine y_call rfl rfl rfl rfl rfl (Nat.le_of_ble_eq_true rfl) (Nat.le_of_ble_eq_true rfl) rfl (by decide) (c28_12 xs d m k hk) (fun v1 m1 q1 => ?_)
  obtain ⟨rfl, e1⟩ := q1; rw [e1]; clear e1
  refine y_st rfl rfl rfl rfl rfl (fun _ _ => rfl) ?_
  show yP (xg xs) (d + 1) 27 9 [(0, .int (nI k)), (1, .int (20 : Int32))] [] m _
  exact y_ret rfl rfl rfl rfl (⟨rfl, rfl⟩)
set_option maxRecDepth 20000 in
/-- StringLatin1.charAt of constant 12 -/
theorem c26_12 (xs : List Int32) (d : Nat) (m : yM) (k : Nat) (hk : k < 20) : yC (xg xs) (d + 2) 26 [.retAddr 72, .int (nI k)] m (fun r m' => r = some (.int (xsb_12.getD k 0)) ∧ m' = m) := by
  refine y_st rfl rfl rfl rfl rfl (fun _ _ => rfl) ?_
  refine y_st rfl rfl rfl rfl rfl (fun _ _ => rfl) ?_
  refine y_st rfl rfl rfl rfl rfl (fun _ _ => rfl) ?_
  show yP (xg xs) (d + 2) 26 3 [(0, .retAddr 72), (1, .int (nI k))] [.int (20 : Int32), .int (nI k)] m _
  refine y_call rfl rfl rfl rfl rfl (Nat.le_of_ble_eq_true rfl) (Nat.le_of_ble_eq_true rfl) rfl (by decide) (c27_12 xs d m k hk) (fun v1 m1 q1 => ?_)
  obtain ⟨rfl, e1⟩ := q1; rw [e1]; clear e1
  refine y_st rfl rfl rfl rfl rfl (fun _ _ => rfl) ?_
  refine y_st rfl rfl rfl rfl rfl (fun _ _ => rfl) ?_
  show yP (xg xs) (d + 2) 26 8 [(0, .retAddr 72), (1, .int (nI k))] [.int (nI k), .retAddr 72] m _
  refine y_cbald rfl rfl rfl (by rw [xl_12]; exact x_in_nI hk (by decide)) ?_
  refine y_st rfl rfl rfl rfl rfl (fun _ _ => rfl) ?_
  refine y_st rfl rfl rfl rfl rfl (fun _ _ => rfl) ?_
  refine y_st rfl rfl rfl rfl rfl (fun _ _ => rfl) ?_
  show yP (xg xs) (d + 2) 26 14 [(0, .retAddr 72), (1, .int (nI k))] [.int (((((xsb_12).getD (nI k).toNatClampNeg 0) &&& (255 : Int32)).toUInt32 % 65536).toInt32)] m _
  exact y_cret rfl rfl rfl (pk_nc _) (by rw [nI_clamp (by omega), (ch_12 k hk).1]; exact ⟨rfl, rfl⟩)
set_option maxRecDepth 20000 in
/-- String.charAt of constant 12 -/
theorem c24_12 (xs : List Int32) (d : Nat) (m : yM) (k : Nat) (hk : k < 20) : yC (xg xs) (d + 3) 24 [.retAddr 32, .int (nI k)] m (fun r m' => r = some (.int (xsb_12.getD k 0)) ∧ m' = m) := by
  refine y_st rfl rfl rfl rfl rfl (fun _ _ => rfl) ?_
  show yP (xg xs) (d + 3) 24 1 [(0, .retAddr 32), (1, .int (nI k))] [.retAddr 32] m _
  refine y_call rfl rfl rfl rfl rfl (Nat.le_of_ble_eq_true rfl) (Nat.le_of_ble_eq_true rfl) rfl (by decide) (yC.mono (Nat.zero_le _) (fun _ _ z => z) (c25_12 xs 0 m)) (fun v1 m1 q1 => ?_)
  obtain ⟨rfl, e1⟩ := q1; rw [e1]; clear e1
  show yP (xg xs) (d + 3) 24 4 [(0, .retAddr 32), (1, .int (nI k))] [.int (1 : Int32)] m _
  refine y_zeq (t := 16) rfl rfl rfl (fun h4 => ?_) (fun h4 => ?_)
  · exact absurd h4 (by decide)
  · refine y_st rfl rfl rfl rfl rfl (fun _ _ => rfl) ?_
    refine y_st rfl rfl rfl rfl rfl (fun _ _ => rfl) ?_
    refine y_st rfl rfl rfl rfl rfl (fun _ _ => rfl) ?_
    show yP (xg xs) (d + 3) 24 12 [(0, .retAddr 32), (1, .int (nI k))] [.int (nI k), .retAddr 72] m _
    refine y_call rfl rfl rfl rfl rfl (Nat.le_of_ble_eq_true rfl) (Nat.le_of_ble_eq_true rfl) rfl (by decide) (c26_12 xs d m k hk) (fun v2 m2 q2 => ?_)
    obtain ⟨rfl, e2⟩ := q2; rw [e2]; clear e2
    show yP (xg xs) (d + 3) 24 15 [(0, .retAddr 32), (1, .int (nI k))] [.int (xsb_12.getD k 0)] m _
    exact y_cret rfl rfl rfl (cc_12 hk) (⟨rfl, rfl⟩)
