/-! String.indexOf: laid by wip/gen/small19.py -/
/-- the first place from i on where b stands, or -1 -/
def ixo (l : List Int32) (b : Int32) : Nat → Nat → Int32
  | 0, _ => -1
  | q + 1, i => if l.getD i 0 = b then nI i else ixo l b q (i + 1)
set_option maxRecDepth 20000 in
/-- StringLatin1.canEncode -/
theorem c55 (xs : List Int32) (d : Nat) (m : yM) (c : Int32) (h0 : ¬ c < 0) (h1 : ¬ 255 < c) : yC (xg xs) d 55 [.int c] m (fun r m' => r = some (.int 1) ∧ m' = m) := by
  refine y_st rfl rfl rfl rfl rfl (fun _ _ => rfl) ?_
  show yP (xg xs) d 55 1 [(0, .int c)] [.int c] m _
  refine y_zlt (t := 15) rfl rfl rfl (fun h1_ => ?_) (fun h1_ => ?_)
  · exact absurd h1_ h0
  · refine y_st rfl rfl rfl rfl rfl (fun _ _ => rfl) ?_
    refine y_st rfl rfl rfl rfl rfl (fun _ _ => rfl) ?_
    show yP (xg xs) d 55 8 [(0, .int c)] [.int (255 : Int32), .int c] m _
    refine y_igt (t := 15) rfl rfl rfl (fun h8 => ?_) (fun h8 => ?_)
    · exact absurd h8 h1
    · refine y_st rfl rfl rfl rfl rfl (fun _ _ => rfl) ?_
      refine y_st rfl rfl rfl rfl rfl (fun _ _ => rfl) ?_
      show yP (xg xs) d 55 16 [(0, .int c)] [.int (1 : Int32)] m _
      exact y_zret rfl rfl rfl (by decide) (⟨rfl, rfl⟩)
theorem xl_1 : xsb_1.length = 3 := by decide +kernel
/-- letters of the alphabet are what they are as chars and bytes -/
theorem ch_1 : ∀ i, i < 3 → ((xsb_1.getD i 0 &&& 255).toUInt32 % 65536).toInt32 = xsb_1.getD i 0 ∧ (xsb_1.getD i 0).toInt8.toInt32 = xsb_1.getD i 0 := by decide +kernel
theorem cc_1 {i : Nat} (h : i < 3) : narrow .char (.int (xsb_1.getD i 0)) = .int (xsb_1.getD i 0) := by rw [← (ch_1 i h).1]; exact pk_nc _
set_option maxRecDepth 20000 in
/-- String.coder of constant 1 -/
theorem c23_1 (xs : List Int32) (d : Nat) (m : yM)  : yC (xg xs) d 23 [.retAddr 21] m (fun r m' => r = some (.int 0) ∧ m' = m) := by
  refine y_st rfl rfl rfl rfl rfl (fun _ _ => rfl) ?_
  show yP (xg xs) d 23 3 [(0, .retAddr 21)] [.int (1 : Int32)] m _
  refine y_zeq (t := 13) rfl rfl rfl (fun h3 => ?_) (fun h3 => ?_)
  · exact absurd h3 (by decide)
  · refine y_st rfl rfl rfl rfl rfl (fun _ _ => rfl) ?_
    refine y_st rfl rfl rfl rfl rfl (fun _ _ => rfl) ?_
    refine y_st rfl rfl rfl rfl rfl (fun _ _ => rfl) ?_
    show yP (xg xs) d 23 14 [(0, .retAddr 21)] [.int (0 : Int32)] m _
    exact y_ret rfl rfl rfl rfl (⟨rfl, rfl⟩)
set_option maxRecDepth 20000 in
/-- String.length of constant 1 -/
theorem c22_1 (xs : List Int32) (d : Nat) (m : yM)  : yC (xg xs) (d + 1) 22 [.retAddr 21] m (fun r m' => r = some (.int 3) ∧ m' = m) := by
  refine y_st rfl rfl rfl rfl rfl (fun _ _ => rfl) ?_
  refine y_st rfl rfl rfl rfl rfl (fun _ _ => rfl) ?_
  refine y_st rfl rfl rfl rfl rfl (fun _ _ => rfl) ?_
  refine y_st rfl rfl rfl rfl rfl (fun _ _ => rfl) ?_
  show yP (xg xs) (d + 1) 22 6 [(0, .retAddr 21)] [.retAddr 21, .int (3 : Int32)] m _
  refine y_call rfl rfl rfl rfl rfl (Nat.le_of_ble_eq_true rfl) (Nat.le_of_ble_eq_true rfl) rfl (by decide) (c23_1 xs d m) (fun v1 m1 q1 => ?_)
  obtain ⟨rfl, e1⟩ := q1; rw [e1]; clear e1
  refine y_st rfl rfl rfl rfl rfl (fun _ _ => rfl) ?_
  show yP (xg xs) (d + 1) 22 10 [(0, .retAddr 21)] [.int ((3 : Int32) >>> ((0 : Int32) &&& 31))] m _
  exact y_iret rfl rfl rfl (⟨congrArg (fun z => some (Value.int z)) (by decide), rfl⟩)
set_option maxRecDepth 20000 in
/-- String.isLatin1 of constant 1 -/
theorem c25_1 (xs : List Int32) (d : Nat) (m : yM)  : yC (xg xs) d 25 [.retAddr 21] m (fun r m' => r = some (.int 1) ∧ m' = m) := by
  refine y_st rfl rfl rfl rfl rfl (fun _ _ => rfl) ?_
  show yP (xg xs) d 25 3 [(0, .retAddr 21)] [.int (1 : Int32)] m _
  refine y_zeq (t := 17) rfl rfl rfl (fun h3 => ?_) (fun h3 => ?_)
  · exact absurd h3 (by decide)
  · refine y_st rfl rfl rfl rfl rfl (fun _ _ => rfl) ?_
    refine y_st rfl rfl rfl rfl rfl (fun _ _ => rfl) ?_
    show yP (xg xs) d 25 10 [(0, .retAddr 21)] [.int (0 : Int32)] m _
    refine y_zne (t := 17) rfl rfl rfl (fun h10 => ?_) (fun h10 => ?_)
    · exact absurd h10 (by decide)
    · refine y_st rfl rfl rfl rfl rfl (fun _ _ => rfl) ?_
      refine y_st rfl rfl rfl rfl rfl (fun _ _ => rfl) ?_
      show yP (xg xs) d 25 18 [(0, .retAddr 21)] [.int (1 : Int32)] m _
      exact y_zret rfl rfl rfl (by decide) (⟨rfl, rfl⟩)
set_option maxRecDepth 20000 in
/-- Preconditions.checkIndex -/
theorem c28_1 (xs : List Int32) (d : Nat) (m : yM) (k : Nat) (hk : k < 3) : yC (xg xs) d 28 [.int (nI k), .int (3 : Int32), .retAddr 0] m (fun r m' => r = some (.int (nI k)) ∧ m' = m) := by
  refine y_st rfl rfl rfl rfl rfl (fun _ _ => rfl) ?_
  show yP (xg xs) d 28 1 [(0, .int (nI k)), (1, .int (3 : Int32)), (2, .retAddr 0)] [.int (nI k)] m _
  refine y_zlt (t := 9) rfl rfl rfl (fun h1 => ?_) (fun h1 => ?_)
  · exact absurd h1 (nI_pos (by omega))
  · refine y_st rfl rfl rfl rfl rfl (fun _ _ => rfl) ?_
    refine y_st rfl rfl rfl rfl rfl (fun _ _ => rfl) ?_
    show yP (xg xs) d 28 6 [(0, .int (nI k)), (1, .int (3 : Int32)), (2, .retAddr 0)] [.int (3 : Int32), .int (nI k)] m _
    refine y_ilt (t := 16) rfl rfl rfl (fun h6 => ?_) (fun h6 => ?_)
    · refine y_st rfl rfl rfl rfl rfl (fun _ _ => rfl) ?_
      show yP (xg xs) d 28 17 [(0, .int (nI k)), (1, .int (3 : Int32)), (2, .retAddr 0)] [.int (nI k)] m _
      exact y_iret rfl rfl rfl (⟨rfl, rfl⟩)
    · exact absurd (nI_lt (b := 3) hk (by decide)) h6
set_option maxRecDepth 20000 in
/-- String.checkIndex -/
theorem c27_1 (xs : List Int32) (d : Nat) (m : yM) (k : Nat) (hk : k < 3) : yC (xg xs) (d + 1) 27 [.int (nI k), .int (3 : Int32)] m (fun r m' => r = none ∧ m' = m) := by
  refine y_st rfl rfl rfl rfl rfl (fun _ _ => rfl) ?_
  refine y_st rfl rfl rfl rfl rfl (fun _ _ => rfl) ?_
  refine y_st rfl rfl rfl rfl rfl (fun _ _ => rfl) ?_
  show yP (xg xs) (d + 1) 27 5 [(0, .int (nI k)), (1, .int (3 : Int32))] [.retAddr 0, .int (3 : Int32), .int (nI k)] m _
  refine y_call rfl rfl rfl rfl rfl (Nat.le_of_ble_eq_true rfl) (Nat.le_of_ble_eq_true rfl) rfl (by decide) (c28_1 xs d m k hk) (fun v1 m1 q1 => ?_)
  obtain ⟨rfl, e1⟩ := q1; rw [e1]; clear e1
  refine y_st rfl rfl rfl rfl rfl (fun _ _ => rfl) ?_
  show yP (xg xs) (d + 1) 27 9 [(0, .int (nI k)), (1, .int (3 : Int32))] [] m _
  exact y_ret rfl rfl rfl rfl (⟨rfl, rfl⟩)
set_option maxRecDepth 20000 in
/-- StringLatin1.charAt of constant 1 -/
theorem c26_1 (xs : List Int32) (d : Nat) (m : yM) (k : Nat) (hk : k < 3) : yC (xg xs) (d + 2) 26 [.retAddr 61, .int (nI k)] m (fun r m' => r = some (.int (xsb_1.getD k 0)) ∧ m' = m) := by
  refine y_st rfl rfl rfl rfl rfl (fun _ _ => rfl) ?_
  refine y_st rfl rfl rfl rfl rfl (fun _ _ => rfl) ?_
  refine y_st rfl rfl rfl rfl rfl (fun _ _ => rfl) ?_
  show yP (xg xs) (d + 2) 26 3 [(0, .retAddr 61), (1, .int (nI k))] [.int (3 : Int32), .int (nI k)] m _
  refine y_call rfl rfl rfl rfl rfl (Nat.le_of_ble_eq_true rfl) (Nat.le_of_ble_eq_true rfl) rfl (by decide) (c27_1 xs d m k hk) (fun v1 m1 q1 => ?_)
  obtain ⟨rfl, e1⟩ := q1; rw [e1]; clear e1
  refine y_st rfl rfl rfl rfl rfl (fun _ _ => rfl) ?_
  refine y_st rfl rfl rfl rfl rfl (fun _ _ => rfl) ?_
  show yP (xg xs) (d + 2) 26 8 [(0, .retAddr 61), (1, .int (nI k))] [.int (nI k), .retAddr 61] m _
  refine y_cbald rfl rfl rfl (by rw [xl_1]; exact x_in_nI hk (by decide)) ?_
  refine y_st rfl rfl rfl rfl rfl (fun _ _ => rfl) ?_
  refine y_st rfl rfl rfl rfl rfl (fun _ _ => rfl) ?_
  refine y_st rfl rfl rfl rfl rfl (fun _ _ => rfl) ?_
  show yP (xg xs) (d + 2) 26 14 [(0, .retAddr 61), (1, .int (nI k))] [.int (((((xsb_1).getD (nI k).toNatClampNeg 0) &&& (255 : Int32)).toUInt32 % 65536).toInt32)] m _
  exact y_cret rfl rfl rfl (pk_nc _) (by rw [nI_clamp (by omega), (ch_1 k hk).1]; exact ⟨rfl, rfl⟩)
set_option maxRecDepth 20000 in
/-- String.charAt of constant 1 -/
theorem c24_1 (xs : List Int32) (d : Nat) (m : yM) (k : Nat) (hk : k < 3) : yC (xg xs) (d + 3) 24 [.retAddr 21, .int (nI k)] m (fun r m' => r = some (.int (xsb_1.getD k 0)) ∧ m' = m) := by
  refine y_st rfl rfl rfl rfl rfl (fun _ _ => rfl) ?_
  show yP (xg xs) (d + 3) 24 1 [(0, .retAddr 21), (1, .int (nI k))] [.retAddr 21] m _
  refine y_call rfl rfl rfl rfl rfl (Nat.le_of_ble_eq_true rfl) (Nat.le_of_ble_eq_true rfl) rfl (by decide) (yC.mono (Nat.zero_le _) (fun _ _ z => z) (c25_1 xs 0 m)) (fun v1 m1 q1 => ?_)
  obtain ⟨rfl, e1⟩ := q1; rw [e1]; clear e1
  show yP (xg xs) (d + 3) 24 4 [(0, .retAddr 21), (1, .int (nI k))] [.int (1 : Int32)] m _
  refine y_zeq (t := 16) rfl rfl rfl (fun h4 => ?_) (fun h4 => ?_)
  · exact absurd h4 (by decide)
  · refine y_st rfl rfl rfl rfl rfl (fun _ _ => rfl) ?_
    refine y_st rfl rfl rfl rfl rfl (fun _ _ => rfl) ?_
    refine y_st rfl rfl rfl rfl rfl (fun _ _ => rfl) ?_
    show yP (xg xs) (d + 3) 24 12 [(0, .retAddr 21), (1, .int (nI k))] [.int (nI k), .retAddr 61] m _
    refine y_call rfl rfl rfl rfl rfl (Nat.le_of_ble_eq_true rfl) (Nat.le_of_ble_eq_true rfl) rfl (by decide) (c26_1 xs d m k hk) (fun v2 m2 q2 => ?_)
    obtain ⟨rfl, e2⟩ := q2; rw [e2]; clear e2
    show yP (xg xs) (d + 3) 24 15 [(0, .retAddr 21), (1, .int (nI k))] [.int (xsb_1.getD k 0)] m _
    exact y_cret rfl rfl rfl (cc_1 hk) (⟨rfl, rfl⟩)
set_option maxRecDepth 20000 in
/-- StringLatin1.indexOfChar of constant 1, its loop -/
theorem c58_1L (xs : List Int32) (d : Nat) (m : yM) (b c z : Int32) : ∀ (q : Nat) (i : Nat), i + q = 3 → yP (xg xs) d 58 7 [(5, .int (nI i)), (4, .int b), (0, .retAddr 61), (1, .int c), (2, .int z), (3, .int (3 : Int32))] [] m (fun r m' => r = some (.int (ixo xsb_1 b q i)) ∧ m' = m) := by
  intro q
  induction q with
  | zero =>
    intro i hi
    have hi2 : i = 3 := by omega
    refine y_st rfl rfl rfl rfl rfl (fun _ _ => rfl) ?_
    refine y_st rfl rfl rfl rfl rfl (fun _ _ => rfl) ?_
    show yP (xg xs) d 58 10 [(5, .int (nI i)), (4, .int b), (0, .retAddr 61), (1, .int c), (2, .int z), (3, .int (3 : Int32))] [.int (3 : Int32), .int (nI i)] m _
    refine y_ige (t := 31) rfl rfl rfl (fun h10 => ?_) (fun h10 => ?_)
    · refine y_st rfl rfl rfl rfl rfl (fun _ _ => rfl) ?_
      show yP (xg xs) d 58 32 [(5, .int (nI i)), (4, .int b), (0, .retAddr 61), (1, .int c), (2, .int z), (3, .int (3 : Int32))] [.int ((-1) : Int32)] m _
      exact y_iret rfl rfl rfl (⟨rfl, rfl⟩)
    · exact absurd (by rw [hi2]; exact Int32.le_refl _) h10
  | succ q ih =>
    intro i hi
    have hi2 : i < 3 := by omega
    have e2 : (nI i).toNatClampNeg = i := nI_clamp (by omega)
    have hs : ixo xsb_1 b (q + 1) i = if xsb_1.getD i 0 = b then nI i else ixo xsb_1 b q (i + 1) := rfl
    refine y_st rfl rfl rfl rfl rfl (fun _ _ => rfl) ?_
    refine y_st rfl rfl rfl rfl rfl (fun _ _ => rfl) ?_
    show yP (xg xs) d 58 10 [(5, .int (nI i)), (4, .int b), (0, .retAddr 61), (1, .int c), (2, .int z), (3, .int (3 : Int32))] [.int (3 : Int32), .int (nI i)] m _
    refine y_ige (t := 31) rfl rfl rfl (fun h10 => ?_) (fun h10 => ?_)
    · exact absurd h10 (nI_ge (b := 3) hi2 (by decide))
    · refine y_st rfl rfl rfl rfl rfl (fun _ _ => rfl) ?_
      refine y_st rfl rfl rfl rfl rfl (fun _ _ => rfl) ?_
      show yP (xg xs) d 58 16 [(5, .int (nI i)), (4, .int b), (0, .retAddr 61), (1, .int c), (2, .int z), (3, .int (3 : Int32))] [.int (nI i), .retAddr 61] m _
      refine y_cbald rfl rfl rfl (by rw [xl_1]; exact x_in_nI hi2 (by decide)) ?_
      refine y_st rfl rfl rfl rfl rfl (fun _ _ => rfl) ?_
      show yP (xg xs) d 58 19 [(5, .int (nI i)), (4, .int b), (0, .retAddr 61), (1, .int c), (2, .int z), (3, .int (3 : Int32))] [.int b, .int ((xsb_1).getD (nI i).toNatClampNeg 0)] m _
      refine y_ine (t := 25) rfl rfl rfl (fun h19 => ?_) (fun h19 => ?_)
      · rw [e2] at h19
        refine y_st rfl rfl rfl rfl rfl (fun _ _ => rfl) ?_
        refine y_st rfl rfl rfl rfl rfl (fun _ _ => rfl) ?_
        show yP (xg xs) d 58 7 [(5, .int ((nI i) + (1 : Int32))), (4, .int b), (0, .retAddr 61), (1, .int c), (2, .int z), (3, .int (3 : Int32))] [] m _
        refine y_head (l2 := [(5, .int ((nI i) + (1 : Int32))), (4, .int b), (0, .retAddr 61), (1, .int c), (2, .int z), (3, .int (3 : Int32))]) [0, 1, 2, 3, 4, 5] [5, 4, 0, 1, 2, 3] 6 rfl (by decide) rfl rfl (by decide) ?_
        rw [nI_1, hs, if_neg h19]; exact ih (i + 1) (by omega)
      · rw [e2] at h19
        refine y_st rfl rfl rfl rfl rfl (fun _ _ => rfl) ?_
        show yP (xg xs) d 58 24 [(5, .int (nI i)), (4, .int b), (0, .retAddr 61), (1, .int c), (2, .int z), (3, .int (3 : Int32))] [.int (nI i)] m _
        exact y_iret rfl rfl rfl (by rw [hs, if_pos h19]; exact ⟨rfl, rfl⟩)
set_option maxRecDepth 20000 in
/-- StringLatin1.indexOfChar of constant 1 -/
theorem c58_1 (xs : List Int32) (d : Nat) (m : yM) (c : Int32) : yC (xg xs) d 58 [.retAddr 61, .int c, .int (0 : Int32), .int (3 : Int32)] m (fun r m' => r = some (.int (ixo xsb_1 c.toInt8.toInt32 3 0)) ∧ m' = m) := by
  refine y_st rfl rfl rfl rfl rfl (fun _ _ => rfl) ?_
  refine y_st rfl rfl rfl rfl rfl (fun _ _ => rfl) ?_
  refine y_st rfl rfl rfl rfl rfl (fun _ _ => rfl) ?_
  refine y_st rfl rfl rfl rfl rfl (fun _ _ => rfl) ?_
  refine y_st rfl rfl rfl rfl rfl (fun _ _ => rfl) ?_
  show yP (xg xs) d 58 7 [(5, .int (0 : Int32)), (4, .int c.toInt8.toInt32), (0, .retAddr 61), (1, .int c), (2, .int (0 : Int32)), (3, .int (3 : Int32))] [] m _
  refine y_head (l2 := [(5, .int (0 : Int32)), (4, .int c.toInt8.toInt32), (0, .retAddr 61), (1, .int c), (2, .int (0 : Int32)), (3, .int (3 : Int32))]) [0, 1, 2, 3, 4, 5] [5, 4, 0, 1, 2, 3] 6 rfl (by decide) rfl rfl (by decide) ?_
  exact c58_1L xs d m _ c 0 3 0 (by omega)
set_option maxRecDepth 20000 in
/-- StringLatin1.indexOf of constant 1 -/
theorem c54_1 (xs : List Int32) (d : Nat) (m : yM) (c : Int32) (h0 : ¬ c < 0) (h1 : ¬ 255 < c) : yC (xg xs) (d + 1) 54 [.retAddr 61, .int c, .int (0 : Int32), .int (3 : Int32)] m (fun r m' => r = some (.int (ixo xsb_1 c.toInt8.toInt32 3 0)) ∧ m' = m) := by
  refine y_st rfl rfl rfl rfl rfl (fun _ _ => rfl) ?_
  show yP (xg xs) (d + 1) 54 1 [(0, .retAddr 61), (1, .int c), (2, .int (0 : Int32)), (3, .int (3 : Int32))] [.int c] m _
  refine y_call rfl rfl rfl rfl rfl (Nat.le_of_ble_eq_true rfl) (Nat.le_of_ble_eq_true rfl) rfl (by decide) (yC.mono (Nat.zero_le _) (fun _ _ z => z) (c55 xs 0 m c h0 h1)) (fun v1 m1 q1 => ?_)
  obtain ⟨rfl, e1⟩ := q1; rw [e1]; clear e1
  show yP (xg xs) (d + 1) 54 4 [(0, .retAddr 61), (1, .int c), (2, .int (0 : Int32)), (3, .int (3 : Int32))] [.int (1 : Int32)] m _
  refine y_zne (t := 9) rfl rfl rfl (fun h4 => ?_) (fun h4 => ?_)
  · refine y_st rfl rfl rfl rfl rfl (fun _ _ => rfl) ?_
    refine y_st rfl rfl rfl rfl rfl (fun _ _ => rfl) ?_
    refine y_mi rfl rfl rfl rfl rfl (Nat.le_of_ble_eq_true rfl) (by omega) ?_
    show yP (xg xs) (d + 1) 54 14 [(0, .retAddr 61), (1, .int c), (2, .int (0 : Int32)), (3, .int (3 : Int32))] [.int (if (0 : Int32) < (0 : Int32) then (0 : Int32) else (0 : Int32))] m _
    rw [show (if (0 : Int32) < (0 : Int32) then (0 : Int32) else (0 : Int32)) = (0 : Int32) from rfl]
    refine y_st rfl rfl rfl rfl rfl (fun _ _ => rfl) ?_
    refine y_st rfl rfl rfl rfl rfl (fun _ _ => rfl) ?_
    refine y_st rfl rfl rfl rfl rfl (fun _ _ => rfl) ?_
    refine y_st rfl rfl rfl rfl rfl (fun _ _ => rfl) ?_
    refine y_mi rfl rfl rfl rfl rfl (Nat.le_of_ble_eq_true rfl) (by omega) ?_
    show yP (xg xs) (d + 1) 54 21 [(2, .int (0 : Int32)), (0, .retAddr 61), (1, .int c), (3, .int (3 : Int32))] [.int (if (3 : Int32) < (3 : Int32) then (3 : Int32) else (3 : Int32))] m _
    rw [show (if (3 : Int32) < (3 : Int32) then (3 : Int32) else (3 : Int32)) = (3 : Int32) from rfl]
    refine y_st rfl rfl rfl rfl rfl (fun _ _ => rfl) ?_
    refine y_st rfl rfl rfl rfl rfl (fun _ _ => rfl) ?_
    refine y_st rfl rfl rfl rfl rfl (fun _ _ => rfl) ?_
    show yP (xg xs) (d + 1) 54 24 [(3, .int (3 : Int32)), (2, .int (0 : Int32)), (0, .retAddr 61), (1, .int c)] [.int (3 : Int32), .int (0 : Int32)] m _
    refine y_ilt (t := 29) rfl rfl rfl (fun h24 => ?_) (fun h24 => ?_)
    · refine y_st rfl rfl rfl rfl rfl (fun _ _ => rfl) ?_
      refine y_st rfl rfl rfl rfl rfl (fun _ _ => rfl) ?_
      refine y_st rfl rfl rfl rfl rfl (fun _ _ => rfl) ?_
      refine y_st rfl rfl rfl rfl rfl (fun _ _ => rfl) ?_
      show yP (xg xs) (d + 1) 54 33 [(3, .int (3 : Int32)), (2, .int (0 : Int32)), (0, .retAddr 61), (1, .int c)] [.int (3 : Int32), .int (0 : Int32), .int c, .retAddr 61] m _
      refine y_call rfl rfl rfl rfl rfl (Nat.le_of_ble_eq_true rfl) (Nat.le_of_ble_eq_true rfl) rfl (by decide) (c58_1 xs d m c) (fun v2 m2 q2 => ?_)
      obtain ⟨rfl, e2⟩ := q2; rw [e2]; clear e2
      show yP (xg xs) (d + 1) 54 36 [(3, .int (3 : Int32)), (2, .int (0 : Int32)), (0, .retAddr 61), (1, .int c)] [.int (ixo xsb_1 c.toInt8.toInt32 3 0)] m _
      exact y_iret rfl rfl rfl (⟨rfl, rfl⟩)
    · exact absurd h24 (by decide)
  · exact absurd h4 (by decide)
set_option maxRecDepth 20000 in
/-- String.indexOf of constant 1 -/
theorem c53_1 (xs : List Int32) (d : Nat) (m : yM) (c : Int32) (h0 : ¬ c < 0) (h1 : ¬ 255 < c) : yC (xg xs) (d + 2) 53 [.retAddr 21, .int c, .int (0 : Int32)] m (fun r m' => r = some (.int (ixo xsb_1 c.toInt8.toInt32 3 0)) ∧ m' = m) := by
  refine y_st rfl rfl rfl rfl rfl (fun _ _ => rfl) ?_
  show yP (xg xs) (d + 2) 53 1 [(0, .retAddr 21), (1, .int c), (2, .int (0 : Int32))] [.retAddr 21] m _
  refine y_call rfl rfl rfl rfl rfl (Nat.le_of_ble_eq_true rfl) (Nat.le_of_ble_eq_true rfl) rfl (by decide) (yC.mono (Nat.zero_le _) (fun _ _ z => z) (c25_1 xs 0 m)) (fun v1 m1 q1 => ?_)
  obtain ⟨rfl, e1⟩ := q1; rw [e1]; clear e1
  show yP (xg xs) (d + 2) 53 4 [(0, .retAddr 21), (1, .int c), (2, .int (0 : Int32))] [.int (1 : Int32)] m _
  refine y_zeq (t := 23) rfl rfl rfl (fun h4 => ?_) (fun h4 => ?_)
  · exact absurd h4 (by decide)
  · refine y_st rfl rfl rfl rfl rfl (fun _ _ => rfl) ?_
    refine y_st rfl rfl rfl rfl rfl (fun _ _ => rfl) ?_
    refine y_st rfl rfl rfl rfl rfl (fun _ _ => rfl) ?_
    refine y_st rfl rfl rfl rfl rfl (fun _ _ => rfl) ?_
    refine y_st rfl rfl rfl rfl rfl (fun _ _ => rfl) ?_
    show yP (xg xs) (d + 2) 53 14 [(0, .retAddr 21), (1, .int c), (2, .int (0 : Int32))] [.retAddr 21, .int (0 : Int32), .int c, .retAddr 61] m _
    refine y_call rfl rfl rfl rfl rfl (Nat.le_of_ble_eq_true rfl) (Nat.le_of_ble_eq_true rfl) rfl (by decide) (c22_1 xs d m) (fun v2 m2 q2 => ?_)
    obtain ⟨rfl, e2⟩ := q2; rw [e2]; clear e2
    show yP (xg xs) (d + 2) 53 17 [(0, .retAddr 21), (1, .int c), (2, .int (0 : Int32))] [.int (3 : Int32), .int (0 : Int32), .int c, .retAddr 61] m _
    refine y_call rfl rfl rfl rfl rfl (Nat.le_of_ble_eq_true rfl) (Nat.le_of_ble_eq_true rfl) rfl (by decide) (c54_1 xs d m c h0 h1) (fun v3 m3 q3 => ?_)
    obtain ⟨rfl, e3⟩ := q3; rw [e3]; clear e3
    refine y_st rfl rfl rfl rfl rfl (fun _ _ => rfl) ?_
    show yP (xg xs) (d + 2) 53 36 [(0, .retAddr 21), (1, .int c), (2, .int (0 : Int32))] [.int (ixo xsb_1 c.toInt8.toInt32 3 0)] m _
    exact y_iret rfl rfl rfl (⟨rfl, rfl⟩)
set_option maxRecDepth 20000 in
/-- String.indexOf of constant 1 -/
theorem c52_1 (xs : List Int32) (d : Nat) (m : yM) (c : Int32) (h0 : ¬ c < 0) (h1 : ¬ 255 < c) : yC (xg xs) (d + 3) 52 [.retAddr 21, .int c] m (fun r m' => r = some (.int (ixo xsb_1 c.toInt8.toInt32 3 0)) ∧ m' = m) := by
  refine y_st rfl rfl rfl rfl rfl (fun _ _ => rfl) ?_
  refine y_st rfl rfl rfl rfl rfl (fun _ _ => rfl) ?_
  refine y_st rfl rfl rfl rfl rfl (fun _ _ => rfl) ?_
  show yP (xg xs) (d + 3) 52 3 [(0, .retAddr 21), (1, .int c)] [.int (0 : Int32), .int c, .retAddr 21] m _
  refine y_call rfl rfl rfl rfl rfl (Nat.le_of_ble_eq_true rfl) (Nat.le_of_ble_eq_true rfl) rfl (by decide) (c53_1 xs d m c h0 h1) (fun v1 m1 q1 => ?_)
  obtain ⟨rfl, e1⟩ := q1; rw [e1]; clear e1
  show yP (xg xs) (d + 3) 52 6 [(0, .retAddr 21), (1, .int c)] [.int (ixo xsb_1 c.toInt8.toInt32 3 0)] m _
  exact y_iret rfl rfl rfl (⟨rfl, rfl⟩)
theorem xl_2 : xsb_2.length = 17 := by decide +kernel
/-- letters of the alphabet are what they are as chars and bytes -/
theorem ch_2 : ∀ i, i < 17 → ((xsb_2.getD i 0 &&& 255).toUInt32 % 65536).toInt32 = xsb_2.getD i 0 ∧ (xsb_2.getD i 0).toInt8.toInt32 = xsb_2.getD i 0 := by decide +kernel
theorem cc_2 {i : Nat} (h : i < 17) : narrow .char (.int (xsb_2.getD i 0)) = .int (xsb_2.getD i 0) := by rw [← (ch_2 i h).1]; exact pk_nc _
set_option maxRecDepth 20000 in
/-- String.coder of constant 2 -/
theorem c23_2 (xs : List Int32) (d : Nat) (m : yM)  : yC (xg xs) d 23 [.retAddr 22] m (fun r m' => r = some (.int 0) ∧ m' = m) := by
  refine y_st rfl rfl rfl rfl rfl (fun _ _ => rfl) ?_
  show yP (xg xs) d 23 3 [(0, .retAddr 22)] [.int (1 : Int32)] m _
  refine y_zeq (t := 13) rfl rfl rfl (fun h3 => ?_) (fun h3 => ?_)
  · exact absurd h3 (by decide)
  · refine y_st rfl rfl rfl rfl rfl (fun _ _ => rfl) ?_
    refine y_st rfl rfl rfl rfl rfl (fun _ _ => rfl) ?_
    refine y_st rfl rfl rfl rfl rfl (fun _ _ => rfl) ?_
    show yP (xg xs) d 23 14 [(0, .retAddr 22)] [.int (0 : Int32)] m _
    exact y_ret rfl rfl rfl rfl (⟨rfl, rfl⟩)
set_option maxRecDepth 20000 in
/-- String.length of constant 2 -/
theorem c22_2 (xs : List Int32) (d : Nat) (m : yM)  : yC (xg xs) (d + 1) 22 [.retAddr 22] m (fun r m' => r = some (.int 17) ∧ m' = m) := by
  refine y_st rfl rfl rfl rfl rfl (fun _ _ => rfl) ?_
  refine y_st rfl rfl rfl rfl rfl (fun _ _ => rfl) ?_
  refine y_st rfl rfl rfl rfl rfl (fun _ _ => rfl) ?_
  refine y_st rfl rfl rfl rfl rfl (fun _ _ => rfl) ?_
  show yP (xg xs) (d + 1) 22 6 [(0, .retAddr 22)] [.retAddr 22, .int (17 : Int32)] m _
  refine y_call rfl rfl rfl rfl rfl (Nat.le_of_ble_eq_true rfl) (Nat.le_of_ble_eq_true rfl) rfl (by decide) (c23_2 xs d m) (fun v1 m1 q1 => ?_)
  obtain ⟨rfl, e1⟩ := q1; rw [e1]; clear e1
  refine y_st rfl rfl rfl rfl rfl (fun _ _ => rfl) ?_
  show yP (xg xs) (d + 1) 22 10 [(0, .retAddr 22)] [.int ((17 : Int32) >>> ((0 : Int32) &&& 31))] m _
  exact y_iret rfl rfl rfl (⟨congrArg (fun z => some (Value.int z)) (by decide), rfl⟩)
set_option maxRecDepth 20000 in
/-- String.isLatin1 of constant 2 -/
theorem c25_2 (xs : List Int32) (d : Nat) (m : yM)  : yC (xg xs) d 25 [.retAddr 22] m (fun r m' => r = some (.int 1) ∧ m' = m) := by
  refine y_st rfl rfl rfl rfl rfl (fun _ _ => rfl) ?_
  show yP (xg xs) d 25 3 [(0, .retAddr 22)] [.int (1 : Int32)] m _
  refine y_zeq (t := 17) rfl rfl rfl (fun h3 => ?_) (fun h3 => ?_)
  · exact absurd h3 (by decide)
  · refine y_st rfl rfl rfl rfl rfl (fun _ _ => rfl) ?_
    refine y_st rfl rfl rfl rfl rfl (fun _ _ => rfl) ?_
    show yP (xg xs) d 25 10 [(0, .retAddr 22)] [.int (0 : Int32)] m _
    refine y_zne (t := 17) rfl rfl rfl (fun h10 => ?_) (fun h10 => ?_)
    · exact absurd h10 (by decide)
    · refine y_st rfl rfl rfl rfl rfl (fun _ _ => rfl) ?_
      refine y_st rfl rfl rfl rfl rfl (fun _ _ => rfl) ?_
      show yP (xg xs) d 25 18 [(0, .retAddr 22)] [.int (1 : Int32)] m _
      exact y_zret rfl rfl rfl (by decide) (⟨rfl, rfl⟩)
set_option maxRecDepth 20000 in
/-- Preconditions.checkIndex -/
theorem c28_2 (xs : List Int32) (d : Nat) (m : yM) (k : Nat) (hk : k < 17) : yC (xg xs) d 28 [.int (nI k), .int (17 : Int32), .retAddr 0] m (fun r m' => r = some (.int (nI k)) ∧ m' = m) := by
  refine y_st rfl rfl rfl rfl rfl (fun _ _ => rfl) ?_
  show yP (xg xs) d 28 1 [(0, .int (nI k)), (1, .int (17 : Int32)), (2, .retAddr 0)] [.int (nI k)] m _
  refine y_zlt (t := 9) rfl rfl rfl (fun h1 => ?_) (fun h1 => ?_)
  · exact absurd h1 (nI_pos (by omega))
  · refine y_st rfl rfl rfl rfl rfl (fun _ _ => rfl) ?_
    refine y_st rfl rfl rfl rfl rfl (fun _ _ => rfl) ?_
    show yP (xg xs) d 28 6 [(0, .int (nI k)), (1, .int (17 : Int32)), (2, .retAddr 0)] [.int (17 : Int32), .int (nI k)] m _
    refine y_ilt (t := 16) rfl rfl rfl (fun h6 => ?_) (fun h6 => ?_)
    · refine y_st rfl rfl rfl rfl rfl (fun _ _ => rfl) ?_
      show yP (xg xs) d 28 17 [(0, .int (nI k)), (1, .int (17 : Int32)), (2, .retAddr 0)] [.int (nI k)] m _
      exact y_iret rfl rfl rfl (⟨rfl, rfl⟩)
    · exact absurd (nI_lt (b := 17) hk (by decide)) h6
set_option maxRecDepth 20000 in
/-- String.checkIndex -/
theorem c27_2 (xs : List Int32) (d : Nat) (m : yM) (k : Nat) (hk : k < 17) : yC (xg xs) (d + 1) 27 [.int (nI k), .int (17 : Int32)] m (fun r m' => r = none ∧ m' = m) := by
  refine y_st rfl rfl rfl rfl rfl (fun _ _ => rfl) ?_
  refine y_st rfl rfl rfl rfl rfl (fun _ _ => rfl) ?_
  refine y_st rfl rfl rfl rfl rfl (fun _ _ => rfl) ?_
  show yP (xg xs) (d + 1) 27 5 [(0, .int (nI k)), (1, .int (17 : Int32))] [.retAddr 0, .int (17 : Int32), .int (nI k)] m _
  refine y_call rfl rfl rfl rfl rfl (Nat.le_of_ble_eq_true rfl) (Nat.le_of_ble_eq_true rfl) rfl (by decide) (c28_2 xs d m k hk) (fun v1 m1 q1 => ?_)
  obtain ⟨rfl, e1⟩ := q1; rw [e1]; clear e1
  refine y_st rfl rfl rfl rfl rfl (fun _ _ => rfl) ?_
  show yP (xg xs) (d + 1) 27 9 [(0, .int (nI k)), (1, .int (17 : Int32))] [] m _
  exact y_ret rfl rfl rfl rfl (⟨rfl, rfl⟩)
set_option maxRecDepth 20000 in
/-- StringLatin1.charAt of constant 2 -/
theorem c26_2 (xs : List Int32) (d : Nat) (m : yM) (k : Nat) (hk : k < 17) : yC (xg xs) (d + 2) 26 [.retAddr 62, .int (nI k)] m (fun r m' => r = some (.int (xsb_2.getD k 0)) ∧ m' = m) := by
  refine y_st rfl rfl rfl rfl rfl (fun _ _ => rfl) ?_
  refine y_st rfl rfl rfl rfl rfl (fun _ _ => rfl) ?_
  refine y_st rfl rfl rfl rfl rfl (fun _ _ => rfl) ?_
  show yP (xg xs) (d + 2) 26 3 [(0, .retAddr 62), (1, .int (nI k))] [.int (17 : Int32), .int (nI k)] m _
  refine y_call rfl rfl rfl rfl rfl (Nat.le_of_ble_eq_true rfl) (Nat.le_of_ble_eq_true rfl) rfl (by decide) (c27_2 xs d m k hk) (fun v1 m1 q1 => ?_)
  obtain ⟨rfl, e1⟩ := q1; rw [e1]; clear e1
  refine y_st rfl rfl rfl rfl rfl (fun _ _ => rfl) ?_
  refine y_st rfl rfl rfl rfl rfl (fun _ _ => rfl) ?_
  show yP (xg xs) (d + 2) 26 8 [(0, .retAddr 62), (1, .int (nI k))] [.int (nI k), .retAddr 62] m _
  refine y_cbald rfl rfl rfl (by rw [xl_2]; exact x_in_nI hk (by decide)) ?_
  refine y_st rfl rfl rfl rfl rfl (fun _ _ => rfl) ?_
  refine y_st rfl rfl rfl rfl rfl (fun _ _ => rfl) ?_
  refine y_st rfl rfl rfl rfl rfl (fun _ _ => rfl) ?_
  show yP (xg xs) (d + 2) 26 14 [(0, .retAddr 62), (1, .int (nI k))] [.int (((((xsb_2).getD (nI k).toNatClampNeg 0) &&& (255 : Int32)).toUInt32 % 65536).toInt32)] m _
  exact y_cret rfl rfl rfl (pk_nc _) (by rw [nI_clamp (by omega), (ch_2 k hk).1]; exact ⟨rfl, rfl⟩)
set_option maxRecDepth 20000 in
/-- String.charAt of constant 2 -/
theorem c24_2 (xs : List Int32) (d : Nat) (m : yM) (k : Nat) (hk : k < 17) : yC (xg xs) (d + 3) 24 [.retAddr 22, .int (nI k)] m (fun r m' => r = some (.int (xsb_2.getD k 0)) ∧ m' = m) := by
  refine y_st rfl rfl rfl rfl rfl (fun _ _ => rfl) ?_
  show yP (xg xs) (d + 3) 24 1 [(0, .retAddr 22), (1, .int (nI k))] [.retAddr 22] m _
  refine y_call rfl rfl rfl rfl rfl (Nat.le_of_ble_eq_true rfl) (Nat.le_of_ble_eq_true rfl) rfl (by decide) (yC.mono (Nat.zero_le _) (fun _ _ z => z) (c25_2 xs 0 m)) (fun v1 m1 q1 => ?_)
  obtain ⟨rfl, e1⟩ := q1; rw [e1]; clear e1
  show yP (xg xs) (d + 3) 24 4 [(0, .retAddr 22), (1, .int (nI k))] [.int (1 : Int32)] m _
  refine y_zeq (t := 16) rfl rfl rfl (fun h4 => ?_) (fun h4 => ?_)
  · exact absurd h4 (by decide)
  · refine y_st rfl rfl rfl rfl rfl (fun _ _ => rfl) ?_
    refine y_st rfl rfl rfl rfl rfl (fun _ _ => rfl) ?_
    refine y_st rfl rfl rfl rfl rfl (fun _ _ => rfl) ?_
    show yP (xg xs) (d + 3) 24 12 [(0, .retAddr 22), (1, .int (nI k))] [.int (nI k), .retAddr 62] m _
    refine y_call rfl rfl rfl rfl rfl (Nat.le_of_ble_eq_true rfl) (Nat.le_of_ble_eq_true rfl) rfl (by decide) (c26_2 xs d m k hk) (fun v2 m2 q2 => ?_)
    obtain ⟨rfl, e2⟩ := q2; rw [e2]; clear e2
    show yP (xg xs) (d + 3) 24 15 [(0, .retAddr 22), (1, .int (nI k))] [.int (xsb_2.getD k 0)] m _
    exact y_cret rfl rfl rfl (cc_2 hk) (⟨rfl, rfl⟩)
set_option maxRecDepth 20000 in
/-- StringLatin1.indexOfChar of constant 2, its loop -/
theorem c58_2L (xs : List Int32) (d : Nat) (m : yM) (b c z : Int32) : ∀ (q : Nat) (i : Nat), i + q = 17 → yP (xg xs) d 58 7 [(5, .int (nI i)), (4, .int b), (0, .retAddr 62), (1, .int c), (2, .int z), (3, .int (17 : Int32))] [] m (fun r m' => r = some (.int (ixo xsb_2 b q i)) ∧ m' = m) := by
  intro q
  induction q with
  | zero =>
    intro i hi
    have hi2 : i = 17 := by omega
    refine y_st rfl rfl rfl rfl rfl (fun _ _ => rfl) ?_
    refine y_st rfl rfl rfl rfl rfl (fun _ _ => rfl) ?_
    show yP (xg xs) d 58 10 [(5, .int (nI i)), (4, .int b), (0, .retAddr 62), (1, .int c), (2, .int z), (3, .int (17 : Int32))] [.int (17 : Int32), .int (nI i)] m _
    refine y_ige (t := 31) rfl rfl rfl (fun h10 => ?_) (fun h10 => ?_)
    · refine y_st rfl rfl rfl rfl rfl (fun _ _ => rfl) ?_
      show yP (xg xs) d 58 32 [(5, .int (nI i)), (4, .int b), (0, .retAddr 62), (1, .int c), (2, .int z), (3, .int (17 : Int32))] [.int ((-1) : Int32)] m _
      exact y_iret rfl rfl rfl (⟨rfl, rfl⟩)
    · exact absurd (by rw [hi2]; exact Int32.le_refl _) h10
  | succ q ih =>
    intro i hi
    have hi2 : i < 17 := by omega
    have e2 : (nI i).toNatClampNeg = i := nI_clamp (by omega)
    have hs : ixo xsb_2 b (q + 1) i = if xsb_2.getD i 0 = b then nI i else ixo xsb_2 b q (i + 1) := rfl
    refine y_st rfl rfl rfl rfl rfl (fun _ _ => rfl) ?_
    refine y_st rfl rfl rfl rfl rfl (fun _ _ => rfl) ?_
    show yP (xg xs) d 58 10 [(5, .int (nI i)), (4, .int b), (0, .retAddr 62), (1, .int c), (2, .int z), (3, .int (17 : Int32))] [.int (17 : Int32), .int (nI i)] m _
    refine y_ige (t := 31) rfl rfl rfl (fun h10 => ?_) (fun h10 => ?_)
    · exact absurd h10 (nI_ge (b := 17) hi2 (by decide))
    · refine y_st rfl rfl rfl rfl rfl (fun _ _ => rfl) ?_
      refine y_st rfl rfl rfl rfl rfl (fun _ _ => rfl) ?_
      show yP (xg xs) d 58 16 [(5, .int (nI i)), (4, .int b), (0, .retAddr 62), (1, .int c), (2, .int z), (3, .int (17 : Int32))] [.int (nI i), .retAddr 62] m _
      refine y_cbald rfl rfl rfl (by rw [xl_2]; exact x_in_nI hi2 (by decide)) ?_
      refine y_st rfl rfl rfl rfl rfl (fun _ _ => rfl) ?_
      show yP (xg xs) d 58 19 [(5, .int (nI i)), (4, .int b), (0, .retAddr 62), (1, .int c), (2, .int z), (3, .int (17 : Int32))] [.int b, .int ((xsb_2).getD (nI i).toNatClampNeg 0)] m _
      refine y_ine (t := 25) rfl rfl rfl (fun h19 => ?_) (fun h19 => ?_)
      · rw [e2] at h19
        refine y_st rfl rfl rfl rfl rfl (fun _ _ => rfl) ?_
        refine y_st rfl rfl rfl rfl rfl (fun _ _ => rfl) ?_
        show yP (xg xs) d 58 7 [(5, .int ((nI i) + (1 : Int32))), (4, .int b), (0, .retAddr 62), (1, .int c), (2, .int z), (3, .int (17 : Int32))] [] m _
        refine y_head (l2 := [(5, .int ((nI i) + (1 : Int32))), (4, .int b), (0, .retAddr 62), (1, .int c), (2, .int z), (3, .int (17 : Int32))]) [0, 1, 2, 3, 4, 5] [5, 4, 0, 1, 2, 3] 6 rfl (by decide) rfl rfl (by decide) ?_
        rw [nI_1, hs, if_neg h19]; exact ih (i + 1) (by omega)
      · rw [e2] at h19
        refine y_st rfl rfl rfl rfl rfl (fun _ _ => rfl) ?_
        show yP (xg xs) d 58 24 [(5, .int (nI i)), (4, .int b), (0, .retAddr 62), (1, .int c), (2, .int z), (3, .int (17 : Int32))] [.int (nI i)] m _
        exact y_iret rfl rfl rfl (by rw [hs, if_pos h19]; exact ⟨rfl, rfl⟩)
set_option maxRecDepth 20000 in
/-- StringLatin1.indexOfChar of constant 2 -/
theorem c58_2 (xs : List Int32) (d : Nat) (m : yM) (c : Int32) : yC (xg xs) d 58 [.retAddr 62, .int c, .int (0 : Int32), .int (17 : Int32)] m (fun r m' => r = some (.int (ixo xsb_2 c.toInt8.toInt32 17 0)) ∧ m' = m) := by
  refine y_st rfl rfl rfl rfl rfl (fun _ _ => rfl) ?_
  refine y_st rfl rfl rfl rfl rfl (fun _ _ => rfl) ?_
  refine y_st rfl rfl rfl rfl rfl (fun _ _ => rfl) ?_
  refine y_st rfl rfl rfl rfl rfl (fun _ _ => rfl) ?_
  refine y_st rfl rfl rfl rfl rfl (fun _ _ => rfl) ?_
  show yP (xg xs) d 58 7 [(5, .int (0 : Int32)), (4, .int c.toInt8.toInt32), (0, .retAddr 62), (1, .int c), (2, .int (0 : Int32)), (3, .int (17 : Int32))] [] m _
  refine y_head (l2 := [(5, .int (0 : Int32)), (4, .int c.toInt8.toInt32), (0, .retAddr 62), (1, .int c), (2, .int (0 : Int32)), (3, .int (17 : Int32))]) [0, 1, 2, 3, 4, 5] [5, 4, 0, 1, 2, 3] 6 rfl (by decide) rfl rfl (by decide) ?_
  exact c58_2L xs d m _ c 0 17 0 (by omega)
set_option maxRecDepth 20000 in
/-- StringLatin1.indexOf of constant 2 -/
theorem c54_2 (xs : List Int32) (d : Nat) (m : yM) (c : Int32) (h0 : ¬ c < 0) (h1 : ¬ 255 < c) : yC (xg xs) (d + 1) 54 [.retAddr 62, .int c, .int (0 : Int32), .int (17 : Int32)] m (fun r m' => r = some (.int (ixo xsb_2 c.toInt8.toInt32 17 0)) ∧ m' = m) := by
  refine y_st rfl rfl rfl rfl rfl (fun _ _ => rfl) ?_
  show yP (xg xs) (d + 1) 54 1 [(0, .retAddr 62), (1, .int c), (2, .int (0 : Int32)), (3, .int (17 : Int32))] [.int c] m _
  refine y_call rfl rfl rfl rfl rfl (Nat.le_of_ble_eq_true rfl) (Nat.le_of_ble_eq_true rfl) rfl (by decide) (yC.mono (Nat.zero_le _) (fun _ _ z => z) (c55 xs 0 m c h0 h1)) (fun v1 m1 q1 => ?_)
  obtain ⟨rfl, e1⟩ := q1; rw [e1]; clear e1
  show yP (xg xs) (d + 1) 54 4 [(0, .retAddr 62), (1, .int c), (2, .int (0 : Int32)), (3, .int (17 : Int32))] [.int (1 : Int32)] m _
  refine y_zne (t := 9) rfl rfl rfl (fun h4 => ?_) (fun h4 => ?_)
  · refine y_st rfl rfl rfl rfl rfl (fun _ _ => rfl) ?_
    refine y_st rfl rfl rfl rfl rfl (fun _ _ => rfl) ?_
    refine y_mi rfl rfl rfl rfl rfl (Nat.le_of_ble_eq_true rfl) (by omega) ?_
    show yP (xg xs) (d + 1) 54 14 [(0, .retAddr 62), (1, .int c), (2, .int (0 : Int32)), (3, .int (17 : Int32))] [.int (if (0 : Int32) < (0 : Int32) then (0 : Int32) else (0 : Int32))] m _
    rw [show (if (0 : Int32) < (0 : Int32) then (0 : Int32) else (0 : Int32)) = (0 : Int32) from rfl]
    refine y_st rfl rfl rfl rfl rfl (fun _ _ => rfl) ?_
    refine y_st rfl rfl rfl rfl rfl (fun _ _ => rfl) ?_
    refine y_st rfl rfl rfl rfl rfl (fun _ _ => rfl) ?_
    refine y_st rfl rfl rfl rfl rfl (fun _ _ => rfl) ?_
    refine y_mi rfl rfl rfl rfl rfl (Nat.le_of_ble_eq_true rfl) (by omega) ?_
    show yP (xg xs) (d + 1) 54 21 [(2, .int (0 : Int32)), (0, .retAddr 62), (1, .int c), (3, .int (17 : Int32))] [.int (if (17 : Int32) < (17 : Int32) then (17 : Int32) else (17 : Int32))] m _
    rw [show (if (17 : Int32) < (17 : Int32) then (17 : Int32) else (17 : Int32)) = (17 : Int32) from rfl]
    refine y_st rfl rfl rfl rfl rfl (fun _ _ => rfl) ?_
    refine y_st rfl rfl rfl rfl rfl (fun _ _ => rfl) ?_
    refine y_st rfl rfl rfl rfl rfl (fun _ _ => rfl) ?_
    show yP (xg xs) (d + 1) 54 24 [(3, .int (17 : Int32)), (2, .int (0 : Int32)), (0, .retAddr 62), (1, .int c)] [.int (17 : Int32), .int (0 : Int32)] m _
    refine y_ilt (t := 29) rfl rfl rfl (fun h24 => ?_) (fun h24 => ?_)
    · refine y_st rfl rfl rfl rfl rfl (fun _ _ => rfl) ?_
      refine y_st rfl rfl rfl rfl rfl (fun _ _ => rfl) ?_
      refine y_st rfl rfl rfl rfl rfl (fun _ _ => rfl) ?_
      refine y_st rfl rfl rfl rfl rfl (fun _ _ => rfl) ?_
      show yP (xg xs) (d + 1) 54 33 [(3, .int (17 : Int32)), (2, .int (0 : Int32)), (0, .retAddr 62), (1, .int c)] [.int (17 : Int32), .int (0 : Int32), .int c, .retAddr 62] m _
      refine y_call rfl rfl rfl rfl rfl (Nat.le_of_ble_eq_true rfl) (Nat.le_of_ble_eq_true rfl) rfl (by decide) (c58_2 xs d m c) (fun v2 m2 q2 => ?_)
      obtain ⟨rfl, e2⟩ := q2; rw [e2]; clear e2
      show yP (xg xs) (d + 1) 54 36 [(3, .int (17 : Int32)), (2, .int (0 : Int32)), (0, .retAddr 62), (1, .int c)] [.int (ixo xsb_2 c.toInt8.toInt32 17 0)] m _
      exact y_iret rfl rfl rfl (⟨rfl, rfl⟩)
    · exact absurd h24 (by decide)
  · exact absurd h4 (by decide)
set_option maxRecDepth 20000 in
/-- String.indexOf of constant 2 -/
theorem c53_2 (xs : List Int32) (d : Nat) (m : yM) (c : Int32) (h0 : ¬ c < 0) (h1 : ¬ 255 < c) : yC (xg xs) (d + 2) 53 [.retAddr 22, .int c, .int (0 : Int32)] m (fun r m' => r = some (.int (ixo xsb_2 c.toInt8.toInt32 17 0)) ∧ m' = m) := by
  refine y_st rfl rfl rfl rfl rfl (fun _ _ => rfl) ?_
  show yP (xg xs) (d + 2) 53 1 [(0, .retAddr 22), (1, .int c), (2, .int (0 : Int32))] [.retAddr 22] m _
  refine y_call rfl rfl rfl rfl rfl (Nat.le_of_ble_eq_true rfl) (Nat.le_of_ble_eq_true rfl) rfl (by decide) (yC.mono (Nat.zero_le _) (fun _ _ z => z) (c25_2 xs 0 m)) (fun v1 m1 q1 => ?_)
  obtain ⟨rfl, e1⟩ := q1; rw [e1]; clear e1
  show yP (xg xs) (d + 2) 53 4 [(0, .retAddr 22), (1, .int c), (2, .int (0 : Int32))] [.int (1 : Int32)] m _
  refine y_zeq (t := 23) rfl rfl rfl (fun h4 => ?_) (fun h4 => ?_)
  · exact absurd h4 (by decide)
  · refine y_st rfl rfl rfl rfl rfl (fun _ _ => rfl) ?_
    refine y_st rfl rfl rfl rfl rfl (fun _ _ => rfl) ?_
    refine y_st rfl rfl rfl rfl rfl (fun _ _ => rfl) ?_
    refine y_st rfl rfl rfl rfl rfl (fun _ _ => rfl) ?_
    refine y_st rfl rfl rfl rfl rfl (fun _ _ => rfl) ?_
    show yP (xg xs) (d + 2) 53 14 [(0, .retAddr 22), (1, .int c), (2, .int (0 : Int32))] [.retAddr 22, .int (0 : Int32), .int c, .retAddr 62] m _
    refine y_call rfl rfl rfl rfl rfl (Nat.le_of_ble_eq_true rfl) (Nat.le_of_ble_eq_true rfl) rfl (by decide) (c22_2 xs d m) (fun v2 m2 q2 => ?_)
    obtain ⟨rfl, e2⟩ := q2; rw [e2]; clear e2
    show yP (xg xs) (d + 2) 53 17 [(0, .retAddr 22), (1, .int c), (2, .int (0 : Int32))] [.int (17 : Int32), .int (0 : Int32), .int c, .retAddr 62] m _
    refine y_call rfl rfl rfl rfl rfl (Nat.le_of_ble_eq_true rfl) (Nat.le_of_ble_eq_true rfl) rfl (by decide) (c54_2 xs d m c h0 h1) (fun v3 m3 q3 => ?_)
    obtain ⟨rfl, e3⟩ := q3; rw [e3]; clear e3
    refine y_st rfl rfl rfl rfl rfl (fun _ _ => rfl) ?_
    show yP (xg xs) (d + 2) 53 36 [(0, .retAddr 22), (1, .int c), (2, .int (0 : Int32))] [.int (ixo xsb_2 c.toInt8.toInt32 17 0)] m _
    exact y_iret rfl rfl rfl (⟨rfl, rfl⟩)
set_option maxRecDepth 20000 in
/-- String.indexOf of constant 2 -/
theorem c52_2 (xs : List Int32) (d : Nat) (m : yM) (c : Int32) (h0 : ¬ c < 0) (h1 : ¬ 255 < c) : yC (xg xs) (d + 3) 52 [.retAddr 22, .int c] m (fun r m' => r = some (.int (ixo xsb_2 c.toInt8.toInt32 17 0)) ∧ m' = m) := by
  refine y_st rfl rfl rfl rfl rfl (fun _ _ => rfl) ?_
  refine y_st rfl rfl rfl rfl rfl (fun _ _ => rfl) ?_
  refine y_st rfl rfl rfl rfl rfl (fun _ _ => rfl) ?_
  show yP (xg xs) (d + 3) 52 3 [(0, .retAddr 22), (1, .int c)] [.int (0 : Int32), .int c, .retAddr 22] m _
  refine y_call rfl rfl rfl rfl rfl (Nat.le_of_ble_eq_true rfl) (Nat.le_of_ble_eq_true rfl) rfl (by decide) (c53_2 xs d m c h0 h1) (fun v1 m1 q1 => ?_)
  obtain ⟨rfl, e1⟩ := q1; rw [e1]; clear e1
  show yP (xg xs) (d + 3) 52 6 [(0, .retAddr 22), (1, .int c)] [.int (ixo xsb_2 c.toInt8.toInt32 17 0)] m _
  exact y_iret rfl rfl rfl (⟨rfl, rfl⟩)
