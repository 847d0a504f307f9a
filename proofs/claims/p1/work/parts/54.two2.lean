/-! TWO of the reference: laid by wip/gen/small8.py -/
theorem sar_eq (x y : Int32) (h0 : ¬ y < 0) (h1 : y < 16) : (x &&& 65535) >>> (y &&& 31) = shr_ (x &&& 65535) y := by
  obtain ⟨j, hj, rfl⟩ := nI_of h0
  have hj16 : j < 16 := (nI_ltI (b := 16) hj (by decide)).mp h1
  obtain ⟨q, hq, e⟩ := pk_andE x (m := 65535) 16 (by decide)
  rw [e]
  unfold shr_
  rw [pk_shrN (by omega) (nI j &&& 31) j (s_l j (by omega)), pk_ushrN (by omega) (nI j) j (s_u j (by omega))]
set_option maxRecDepth 20000 in
/-- reference: two -/
theorem c363 (xs : List Int32) (d : Nat) (m : yM) (n x y : Int32) (hn : 0 ≤ n ∧ n ≤ 24) (hz : (n = 3 ∨ n = 4 ∨ n = 8 ∨ n = 9) → ¬ y = 0) : yC (xg xs) (d + 1) 363 [.int n, .int x, .int y] m (fun r m' => r = some (.int (two_ n x y)) ∧ m' = m) := by
  have e20 := sar_eq x y
  have e22 : shr_ x y = (x.toUInt32 >>> (y.toUInt32 &&& Int32.toUInt32 31)).toInt32 := rfl
  refine y_st rfl rfl rfl rfl rfl (fun _ _ => rfl) ?_
  show yP (xg xs) (d + 1) 363 1 [(0, .int n), (1, .int x), (2, .int y)] [.int y] m _
  refine y_zlt (t := 14) rfl rfl rfl (fun h1 => ?_) (fun h1 => ?_)
  · refine y_st rfl rfl rfl rfl rfl (fun _ _ => rfl) ?_
    refine y_st rfl rfl rfl rfl rfl (fun _ _ => rfl) ?_
    refine y_st rfl rfl rfl rfl rfl (fun _ _ => rfl) ?_
    show yP (xg xs) (d + 1) 363 17 [(3, .int (0 : Int32)), (0, .int n), (1, .int x), (2, .int y)] [.int y] m _
    refine y_zlt (t := 30) rfl rfl rfl (fun h17 => ?_) (fun h17 => ?_)
    · refine y_st rfl rfl rfl rfl rfl (fun _ _ => rfl) ?_
      refine y_st rfl rfl rfl rfl rfl (fun _ _ => rfl) ?_
      refine y_st rfl rfl rfl rfl rfl (fun _ _ => rfl) ?_
      show yP (xg xs) (d + 1) 363 34 [(4, .int (0 : Int32)), (3, .int (0 : Int32)), (0, .int n), (1, .int x), (2, .int y)] [.int n] m _
      by_cases h34_0 : n = (0 : Int32)
      · refine y_tsw (t := 144) rfl rfl (by rw [h34_0]; rfl) ?_
        refine y_st rfl rfl rfl rfl rfl (fun _ _ => rfl) ?_
        refine y_st rfl rfl rfl rfl rfl (fun _ _ => rfl) ?_
        refine y_st rfl rfl rfl rfl rfl (fun _ _ => rfl) ?_
        show yP (xg xs) (d + 1) 363 147 [(4, .int (0 : Int32)), (3, .int (0 : Int32)), (0, .int n), (1, .int x), (2, .int y)] [.int (x + y)] m _
        refine y_call rfl rfl rfl rfl rfl (Nat.le_of_ble_eq_true rfl) (Nat.le_of_ble_eq_true rfl) rfl (by decide) (c362 xs d m (x + y)) (fun v1 m1 q1 => ?_)
        obtain ⟨rfl, e1⟩ := q1; rw [e1]; clear e1
        show yP (xg xs) (d + 1) 363 150 [(4, .int (0 : Int32)), (3, .int (0 : Int32)), (0, .int n), (1, .int x), (2, .int y)] [.int (w16 (x + y))] m _
        exact y_iret rfl rfl rfl (by refine ⟨congrArg (fun z => some (Value.int z)) ?_, rfl⟩; unfold two_ cmp_ shf_ shl_; grind)
      by_cases h34_1 : n = (1 : Int32)
      · refine y_tsw (t := 151) rfl rfl (by rw [h34_1]; rfl) ?_
        refine y_st rfl rfl rfl rfl rfl (fun _ _ => rfl) ?_
        refine y_st rfl rfl rfl rfl rfl (fun _ _ => rfl) ?_
        refine y_st rfl rfl rfl rfl rfl (fun _ _ => rfl) ?_
        show yP (xg xs) (d + 1) 363 154 [(4, .int (0 : Int32)), (3, .int (0 : Int32)), (0, .int n), (1, .int x), (2, .int y)] [.int (x - y)] m _
        refine y_call rfl rfl rfl rfl rfl (Nat.le_of_ble_eq_true rfl) (Nat.le_of_ble_eq_true rfl) rfl (by decide) (c362 xs d m (x - y)) (fun v2 m2 q2 => ?_)
        obtain ⟨rfl, e2⟩ := q2; rw [e2]; clear e2
        show yP (xg xs) (d + 1) 363 157 [(4, .int (0 : Int32)), (3, .int (0 : Int32)), (0, .int n), (1, .int x), (2, .int y)] [.int (w16 (x - y))] m _
        exact y_iret rfl rfl rfl (by refine ⟨congrArg (fun z => some (Value.int z)) ?_, rfl⟩; unfold two_ cmp_ shf_ shl_; grind)
      by_cases h34_2 : n = (2 : Int32)
      · refine y_tsw (t := 158) rfl rfl (by rw [h34_2]; rfl) ?_
        refine y_st rfl rfl rfl rfl rfl (fun _ _ => rfl) ?_
        refine y_st rfl rfl rfl rfl rfl (fun _ _ => rfl) ?_
        refine y_st rfl rfl rfl rfl rfl (fun _ _ => rfl) ?_
        show yP (xg xs) (d + 1) 363 161 [(4, .int (0 : Int32)), (3, .int (0 : Int32)), (0, .int n), (1, .int x), (2, .int y)] [.int (x * y)] m _
        refine y_call rfl rfl rfl rfl rfl (Nat.le_of_ble_eq_true rfl) (Nat.le_of_ble_eq_true rfl) rfl (by decide) (c362 xs d m (x * y)) (fun v3 m3 q3 => ?_)
        obtain ⟨rfl, e3⟩ := q3; rw [e3]; clear e3
        show yP (xg xs) (d + 1) 363 164 [(4, .int (0 : Int32)), (3, .int (0 : Int32)), (0, .int n), (1, .int x), (2, .int y)] [.int (w16 (x * y))] m _
        exact y_iret rfl rfl rfl (by refine ⟨congrArg (fun z => some (Value.int z)) ?_, rfl⟩; unfold two_ cmp_ shf_ shl_; grind)
      by_cases h34_3 : n = (3 : Int32)
      · refine y_tsw (t := 165) rfl rfl (by rw [h34_3]; rfl) ?_
        refine y_st rfl rfl rfl rfl rfl (fun _ _ => rfl) ?_
        refine y_st rfl rfl rfl rfl rfl (fun _ _ => rfl) ?_
        show yP (xg xs) (d + 1) 363 167 [(4, .int (0 : Int32)), (3, .int (0 : Int32)), (0, .int n), (1, .int x), (2, .int y)] [.int y, .int x] m _
        refine y_idiv rfl rfl (by grind) ?_
        show yP (xg xs) (d + 1) 363 168 [(4, .int (0 : Int32)), (3, .int (0 : Int32)), (0, .int n), (1, .int x), (2, .int y)] [.int (x / y)] m _
        refine y_call rfl rfl rfl rfl rfl (Nat.le_of_ble_eq_true rfl) (Nat.le_of_ble_eq_true rfl) rfl (by decide) (c362 xs d m (x / y)) (fun v4 m4 q4 => ?_)
        obtain ⟨rfl, e4⟩ := q4; rw [e4]; clear e4
        show yP (xg xs) (d + 1) 363 171 [(4, .int (0 : Int32)), (3, .int (0 : Int32)), (0, .int n), (1, .int x), (2, .int y)] [.int (w16 (x / y))] m _
        exact y_iret rfl rfl rfl (by refine ⟨congrArg (fun z => some (Value.int z)) ?_, rfl⟩; unfold two_ cmp_ shf_ shl_; grind)
      by_cases h34_4 : n = (4 : Int32)
      · refine y_tsw (t := 172) rfl rfl (by rw [h34_4]; rfl) ?_
        refine y_st rfl rfl rfl rfl rfl (fun _ _ => rfl) ?_
        refine y_st rfl rfl rfl rfl rfl (fun _ _ => rfl) ?_
        show yP (xg xs) (d + 1) 363 174 [(4, .int (0 : Int32)), (3, .int (0 : Int32)), (0, .int n), (1, .int x), (2, .int y)] [.int y, .int x] m _
        refine y_irem rfl rfl (by grind) ?_
        show yP (xg xs) (d + 1) 363 175 [(4, .int (0 : Int32)), (3, .int (0 : Int32)), (0, .int n), (1, .int x), (2, .int y)] [.int (x - x / y * y)] m _
        refine y_call rfl rfl rfl rfl rfl (Nat.le_of_ble_eq_true rfl) (Nat.le_of_ble_eq_true rfl) rfl (by decide) (c362 xs d m (x - x / y * y)) (fun v5 m5 q5 => ?_)
        obtain ⟨rfl, e5⟩ := q5; rw [e5]; clear e5
        show yP (xg xs) (d + 1) 363 178 [(4, .int (0 : Int32)), (3, .int (0 : Int32)), (0, .int n), (1, .int x), (2, .int y)] [.int (w16 (x - x / y * y))] m _
        exact y_iret rfl rfl rfl (by refine ⟨congrArg (fun z => some (Value.int z)) ?_, rfl⟩; unfold two_ cmp_ shf_ shl_; grind)
      by_cases h34_5 : n = (5 : Int32)
      · refine y_tsw (t := 179) rfl rfl (by rw [h34_5]; rfl) ?_
        refine y_st rfl rfl rfl rfl rfl (fun _ _ => rfl) ?_
        refine y_st rfl rfl rfl rfl rfl (fun _ _ => rfl) ?_
        refine y_st rfl rfl rfl rfl rfl (fun _ _ => rfl) ?_
        show yP (xg xs) (d + 1) 363 182 [(4, .int (0 : Int32)), (3, .int (0 : Int32)), (0, .int n), (1, .int x), (2, .int y)] [.int (x + y)] m _
        exact y_iret rfl rfl rfl (by refine ⟨congrArg (fun z => some (Value.int z)) ?_, rfl⟩; unfold two_ cmp_ shf_ shl_; grind)
      by_cases h34_6 : n = (6 : Int32)
      · refine y_tsw (t := 183) rfl rfl (by rw [h34_6]; rfl) ?_
        refine y_st rfl rfl rfl rfl rfl (fun _ _ => rfl) ?_
        refine y_st rfl rfl rfl rfl rfl (fun _ _ => rfl) ?_
        refine y_st rfl rfl rfl rfl rfl (fun _ _ => rfl) ?_
        show yP (xg xs) (d + 1) 363 186 [(4, .int (0 : Int32)), (3, .int (0 : Int32)), (0, .int n), (1, .int x), (2, .int y)] [.int (x - y)] m _
        exact y_iret rfl rfl rfl (by refine ⟨congrArg (fun z => some (Value.int z)) ?_, rfl⟩; unfold two_ cmp_ shf_ shl_; grind)
      by_cases h34_7 : n = (7 : Int32)
      · refine y_tsw (t := 187) rfl rfl (by rw [h34_7]; rfl) ?_
        refine y_st rfl rfl rfl rfl rfl (fun _ _ => rfl) ?_
        refine y_st rfl rfl rfl rfl rfl (fun _ _ => rfl) ?_
        refine y_st rfl rfl rfl rfl rfl (fun _ _ => rfl) ?_
        show yP (xg xs) (d + 1) 363 190 [(4, .int (0 : Int32)), (3, .int (0 : Int32)), (0, .int n), (1, .int x), (2, .int y)] [.int (x * y)] m _
        exact y_iret rfl rfl rfl (by refine ⟨congrArg (fun z => some (Value.int z)) ?_, rfl⟩; unfold two_ cmp_ shf_ shl_; grind)
      by_cases h34_8 : n = (8 : Int32)
      · refine y_tsw (t := 191) rfl rfl (by rw [h34_8]; rfl) ?_
        refine y_st rfl rfl rfl rfl rfl (fun _ _ => rfl) ?_
        refine y_st rfl rfl rfl rfl rfl (fun _ _ => rfl) ?_
        show yP (xg xs) (d + 1) 363 193 [(4, .int (0 : Int32)), (3, .int (0 : Int32)), (0, .int n), (1, .int x), (2, .int y)] [.int y, .int x] m _
        refine y_idiv rfl rfl (by grind) ?_
        show yP (xg xs) (d + 1) 363 194 [(4, .int (0 : Int32)), (3, .int (0 : Int32)), (0, .int n), (1, .int x), (2, .int y)] [.int (x / y)] m _
        exact y_iret rfl rfl rfl (by refine ⟨congrArg (fun z => some (Value.int z)) ?_, rfl⟩; unfold two_ cmp_ shf_ shl_; grind)
      by_cases h34_9 : n = (9 : Int32)
      · refine y_tsw (t := 195) rfl rfl (by rw [h34_9]; rfl) ?_
        refine y_st rfl rfl rfl rfl rfl (fun _ _ => rfl) ?_
        refine y_st rfl rfl rfl rfl rfl (fun _ _ => rfl) ?_
        show yP (xg xs) (d + 1) 363 197 [(4, .int (0 : Int32)), (3, .int (0 : Int32)), (0, .int n), (1, .int x), (2, .int y)] [.int y, .int x] m _
        refine y_irem rfl rfl (by grind) ?_
        show yP (xg xs) (d + 1) 363 198 [(4, .int (0 : Int32)), (3, .int (0 : Int32)), (0, .int n), (1, .int x), (2, .int y)] [.int (x - x / y * y)] m _
        exact y_iret rfl rfl rfl (by refine ⟨congrArg (fun z => some (Value.int z)) ?_, rfl⟩; unfold two_ cmp_ shf_ shl_; grind)
      by_cases h34_10 : n = (10 : Int32)
      · refine y_tsw (t := 199) rfl rfl (by rw [h34_10]; rfl) ?_
        refine y_st rfl rfl rfl rfl rfl (fun _ _ => rfl) ?_
        refine y_st rfl rfl rfl rfl rfl (fun _ _ => rfl) ?_
        refine y_st rfl rfl rfl rfl rfl (fun _ _ => rfl) ?_
        show yP (xg xs) (d + 1) 363 202 [(4, .int (0 : Int32)), (3, .int (0 : Int32)), (0, .int n), (1, .int x), (2, .int y)] [.int (x &&& y)] m _
        exact y_iret rfl rfl rfl (by refine ⟨congrArg (fun z => some (Value.int z)) ?_, rfl⟩; unfold two_ cmp_ shf_ shl_; grind)
      by_cases h34_11 : n = (11 : Int32)
      · refine y_tsw (t := 203) rfl rfl (by rw [h34_11]; rfl) ?_
        refine y_st rfl rfl rfl rfl rfl (fun _ _ => rfl) ?_
        refine y_st rfl rfl rfl rfl rfl (fun _ _ => rfl) ?_
        refine y_st rfl rfl rfl rfl rfl (fun _ _ => rfl) ?_
        show yP (xg xs) (d + 1) 363 206 [(4, .int (0 : Int32)), (3, .int (0 : Int32)), (0, .int n), (1, .int x), (2, .int y)] [.int (x ||| y)] m _
        exact y_iret rfl rfl rfl (by refine ⟨congrArg (fun z => some (Value.int z)) ?_, rfl⟩; unfold two_ cmp_ shf_ shl_; grind)
      by_cases h34_12 : n = (12 : Int32)
      · refine y_tsw (t := 207) rfl rfl (by rw [h34_12]; rfl) ?_
        refine y_st rfl rfl rfl rfl rfl (fun _ _ => rfl) ?_
        refine y_st rfl rfl rfl rfl rfl (fun _ _ => rfl) ?_
        refine y_st rfl rfl rfl rfl rfl (fun _ _ => rfl) ?_
        show yP (xg xs) (d + 1) 363 210 [(4, .int (0 : Int32)), (3, .int (0 : Int32)), (0, .int n), (1, .int x), (2, .int y)] [.int (x ^^^ y)] m _
        exact y_iret rfl rfl rfl (by refine ⟨congrArg (fun z => some (Value.int z)) ?_, rfl⟩; unfold two_ cmp_ shf_ shl_; grind)
      by_cases h34_13 : n = (13 : Int32)
      · refine y_tsw (t := 211) rfl rfl (by rw [h34_13]; rfl) ?_
        refine y_st rfl rfl rfl rfl rfl (fun _ _ => rfl) ?_
        refine y_st rfl rfl rfl rfl rfl (fun _ _ => rfl) ?_
        show yP (xg xs) (d + 1) 363 213 [(4, .int (0 : Int32)), (3, .int (0 : Int32)), (0, .int n), (1, .int x), (2, .int y)] [.int y, .int x] m _
        refine y_ine (t := 220) rfl rfl rfl (fun h213 => ?_) (fun h213 => ?_)
        · refine y_st rfl rfl rfl rfl rfl (fun _ _ => rfl) ?_
          show yP (xg xs) (d + 1) 363 221 [(4, .int (0 : Int32)), (3, .int (0 : Int32)), (0, .int n), (1, .int x), (2, .int y)] [.int (0 : Int32)] m _
          exact y_iret rfl rfl rfl (by refine ⟨congrArg (fun z => some (Value.int z)) ?_, rfl⟩; unfold two_ cmp_ shf_ shl_; grind)
        · refine y_st rfl rfl rfl rfl rfl (fun _ _ => rfl) ?_
          refine y_st rfl rfl rfl rfl rfl (fun _ _ => rfl) ?_
          show yP (xg xs) (d + 1) 363 221 [(4, .int (0 : Int32)), (3, .int (0 : Int32)), (0, .int n), (1, .int x), (2, .int y)] [.int (1 : Int32)] m _
          exact y_iret rfl rfl rfl (by refine ⟨congrArg (fun z => some (Value.int z)) ?_, rfl⟩; unfold two_ cmp_ shf_ shl_; grind)
      by_cases h34_14 : n = (14 : Int32)
      · refine y_tsw (t := 222) rfl rfl (by rw [h34_14]; rfl) ?_
        refine y_st rfl rfl rfl rfl rfl (fun _ _ => rfl) ?_
        refine y_st rfl rfl rfl rfl rfl (fun _ _ => rfl) ?_
        show yP (xg xs) (d + 1) 363 224 [(4, .int (0 : Int32)), (3, .int (0 : Int32)), (0, .int n), (1, .int x), (2, .int y)] [.int y, .int x] m _
        refine y_ieq (t := 231) rfl rfl rfl (fun h224 => ?_) (fun h224 => ?_)
        · refine y_st rfl rfl rfl rfl rfl (fun _ _ => rfl) ?_
          show yP (xg xs) (d + 1) 363 232 [(4, .int (0 : Int32)), (3, .int (0 : Int32)), (0, .int n), (1, .int x), (2, .int y)] [.int (0 : Int32)] m _
          exact y_iret rfl rfl rfl (by refine ⟨congrArg (fun z => some (Value.int z)) ?_, rfl⟩; unfold two_ cmp_ shf_ shl_; grind)
        · refine y_st rfl rfl rfl rfl rfl (fun _ _ => rfl) ?_
          refine y_st rfl rfl rfl rfl rfl (fun _ _ => rfl) ?_
          show yP (xg xs) (d + 1) 363 232 [(4, .int (0 : Int32)), (3, .int (0 : Int32)), (0, .int n), (1, .int x), (2, .int y)] [.int (1 : Int32)] m _
          exact y_iret rfl rfl rfl (by refine ⟨congrArg (fun z => some (Value.int z)) ?_, rfl⟩; unfold two_ cmp_ shf_ shl_; grind)
      by_cases h34_15 : n = (15 : Int32)
      · refine y_tsw (t := 233) rfl rfl (by rw [h34_15]; rfl) ?_
        refine y_st rfl rfl rfl rfl rfl (fun _ _ => rfl) ?_
        refine y_st rfl rfl rfl rfl rfl (fun _ _ => rfl) ?_
        show yP (xg xs) (d + 1) 363 235 [(4, .int (0 : Int32)), (3, .int (0 : Int32)), (0, .int n), (1, .int x), (2, .int y)] [.int y, .int x] m _
        refine y_ige (t := 242) rfl rfl rfl (fun h235 => ?_) (fun h235 => ?_)
        · refine y_st rfl rfl rfl rfl rfl (fun _ _ => rfl) ?_
          show yP (xg xs) (d + 1) 363 243 [(4, .int (0 : Int32)), (3, .int (0 : Int32)), (0, .int n), (1, .int x), (2, .int y)] [.int (0 : Int32)] m _
          exact y_iret rfl rfl rfl (by refine ⟨congrArg (fun z => some (Value.int z)) ?_, rfl⟩; unfold two_ cmp_ shf_ shl_; grind)
        · refine y_st rfl rfl rfl rfl rfl (fun _ _ => rfl) ?_
          refine y_st rfl rfl rfl rfl rfl (fun _ _ => rfl) ?_
          show yP (xg xs) (d + 1) 363 243 [(4, .int (0 : Int32)), (3, .int (0 : Int32)), (0, .int n), (1, .int x), (2, .int y)] [.int (1 : Int32)] m _
          exact y_iret rfl rfl rfl (by refine ⟨congrArg (fun z => some (Value.int z)) ?_, rfl⟩; unfold two_ cmp_ shf_ shl_; grind)
      by_cases h34_16 : n = (16 : Int32)
      · refine y_tsw (t := 244) rfl rfl (by rw [h34_16]; rfl) ?_
        refine y_st rfl rfl rfl rfl rfl (fun _ _ => rfl) ?_
        refine y_st rfl rfl rfl rfl rfl (fun _ _ => rfl) ?_
        show yP (xg xs) (d + 1) 363 246 [(4, .int (0 : Int32)), (3, .int (0 : Int32)), (0, .int n), (1, .int x), (2, .int y)] [.int y, .int x] m _
        refine y_ile (t := 253) rfl rfl rfl (fun h246 => ?_) (fun h246 => ?_)
        · refine y_st rfl rfl rfl rfl rfl (fun _ _ => rfl) ?_
          show yP (xg xs) (d + 1) 363 254 [(4, .int (0 : Int32)), (3, .int (0 : Int32)), (0, .int n), (1, .int x), (2, .int y)] [.int (0 : Int32)] m _
          exact y_iret rfl rfl rfl (by refine ⟨congrArg (fun z => some (Value.int z)) ?_, rfl⟩; unfold two_ cmp_ shf_ shl_; grind)
        · refine y_st rfl rfl rfl rfl rfl (fun _ _ => rfl) ?_
          refine y_st rfl rfl rfl rfl rfl (fun _ _ => rfl) ?_
          show yP (xg xs) (d + 1) 363 254 [(4, .int (0 : Int32)), (3, .int (0 : Int32)), (0, .int n), (1, .int x), (2, .int y)] [.int (1 : Int32)] m _
          exact y_iret rfl rfl rfl (by refine ⟨congrArg (fun z => some (Value.int z)) ?_, rfl⟩; unfold two_ cmp_ shf_ shl_; grind)
      by_cases h34_17 : n = (17 : Int32)
      · refine y_tsw (t := 255) rfl rfl (by rw [h34_17]; rfl) ?_
        refine y_st rfl rfl rfl rfl rfl (fun _ _ => rfl) ?_
        refine y_st rfl rfl rfl rfl rfl (fun _ _ => rfl) ?_
        show yP (xg xs) (d + 1) 363 257 [(4, .int (0 : Int32)), (3, .int (0 : Int32)), (0, .int n), (1, .int x), (2, .int y)] [.int y, .int x] m _
        refine y_igt (t := 264) rfl rfl rfl (fun h257 => ?_) (fun h257 => ?_)
        · refine y_st rfl rfl rfl rfl rfl (fun _ _ => rfl) ?_
          show yP (xg xs) (d + 1) 363 265 [(4, .int (0 : Int32)), (3, .int (0 : Int32)), (0, .int n), (1, .int x), (2, .int y)] [.int (0 : Int32)] m _
          exact y_iret rfl rfl rfl (by refine ⟨congrArg (fun z => some (Value.int z)) ?_, rfl⟩; unfold two_ cmp_ shf_ shl_; grind)
        · refine y_st rfl rfl rfl rfl rfl (fun _ _ => rfl) ?_
          refine y_st rfl rfl rfl rfl rfl (fun _ _ => rfl) ?_
          show yP (xg xs) (d + 1) 363 265 [(4, .int (0 : Int32)), (3, .int (0 : Int32)), (0, .int n), (1, .int x), (2, .int y)] [.int (1 : Int32)] m _
          exact y_iret rfl rfl rfl (by refine ⟨congrArg (fun z => some (Value.int z)) ?_, rfl⟩; unfold two_ cmp_ shf_ shl_; grind)
      by_cases h34_18 : n = (18 : Int32)
      · refine y_tsw (t := 266) rfl rfl (by rw [h34_18]; rfl) ?_
        refine y_st rfl rfl rfl rfl rfl (fun _ _ => rfl) ?_
        refine y_st rfl rfl rfl rfl rfl (fun _ _ => rfl) ?_
        show yP (xg xs) (d + 1) 363 268 [(4, .int (0 : Int32)), (3, .int (0 : Int32)), (0, .int n), (1, .int x), (2, .int y)] [.int y, .int x] m _
        refine y_ilt (t := 275) rfl rfl rfl (fun h268 => ?_) (fun h268 => ?_)
        · refine y_st rfl rfl rfl rfl rfl (fun _ _ => rfl) ?_
          show yP (xg xs) (d + 1) 363 276 [(4, .int (0 : Int32)), (3, .int (0 : Int32)), (0, .int n), (1, .int x), (2, .int y)] [.int (0 : Int32)] m _
          exact y_iret rfl rfl rfl (by refine ⟨congrArg (fun z => some (Value.int z)) ?_, rfl⟩; unfold two_ cmp_ shf_ shl_; grind)
        · refine y_st rfl rfl rfl rfl rfl (fun _ _ => rfl) ?_
          refine y_st rfl rfl rfl rfl rfl (fun _ _ => rfl) ?_
          show yP (xg xs) (d + 1) 363 276 [(4, .int (0 : Int32)), (3, .int (0 : Int32)), (0, .int n), (1, .int x), (2, .int y)] [.int (1 : Int32)] m _
          exact y_iret rfl rfl rfl (by refine ⟨congrArg (fun z => some (Value.int z)) ?_, rfl⟩; unfold two_ cmp_ shf_ shl_; grind)
      by_cases h34_19 : n = (19 : Int32)
      · refine y_tsw (t := 277) rfl rfl (by rw [h34_19]; rfl) ?_
        refine y_st rfl rfl rfl rfl rfl (fun _ _ => rfl) ?_
        show yP (xg xs) (d + 1) 363 278 [(4, .int (0 : Int32)), (3, .int (0 : Int32)), (0, .int n), (1, .int x), (2, .int y)] [.int (0 : Int32)] m _
        refine y_zeq (t := 290) rfl rfl rfl (fun h278 => ?_) (fun h278 => ?_)
        · refine y_st rfl rfl rfl rfl rfl (fun _ _ => rfl) ?_
          show yP (xg xs) (d + 1) 363 291 [(4, .int (0 : Int32)), (3, .int (0 : Int32)), (0, .int n), (1, .int x), (2, .int y)] [.int (0 : Int32)] m _
          exact y_iret rfl rfl rfl (by refine ⟨congrArg (fun z => some (Value.int z)) ?_, rfl⟩; unfold two_ cmp_ shf_ shl_; grind)
        · exact absurd h278 (by decide)
      by_cases h34_20 : n = (20 : Int32)
      · refine y_tsw (t := 292) rfl rfl (by rw [h34_20]; rfl) ?_
        refine y_st rfl rfl rfl rfl rfl (fun _ _ => rfl) ?_
        show yP (xg xs) (d + 1) 363 293 [(4, .int (0 : Int32)), (3, .int (0 : Int32)), (0, .int n), (1, .int x), (2, .int y)] [.int (0 : Int32)] m _
        refine y_zeq (t := 309) rfl rfl rfl (fun h293 => ?_) (fun h293 => ?_)
        · refine y_st rfl rfl rfl rfl rfl (fun _ _ => rfl) ?_
          show yP (xg xs) (d + 1) 363 310 [(4, .int (0 : Int32)), (3, .int (0 : Int32)), (0, .int n), (1, .int x), (2, .int y)] [.int (0 : Int32)] m _
          exact y_iret rfl rfl rfl (by refine ⟨congrArg (fun z => some (Value.int z)) ?_, rfl⟩; unfold two_ cmp_ shf_ shl_; grind)
        · exact absurd h293 (by decide)
      by_cases h34_21 : n = (21 : Int32)
      · refine y_tsw (t := 311) rfl rfl (by rw [h34_21]; rfl) ?_
        refine y_st rfl rfl rfl rfl rfl (fun _ _ => rfl) ?_
        show yP (xg xs) (d + 1) 363 313 [(4, .int (0 : Int32)), (3, .int (0 : Int32)), (0, .int n), (1, .int x), (2, .int y)] [.int (0 : Int32)] m _
        refine y_zeq (t := 322) rfl rfl rfl (fun h313 => ?_) (fun h313 => ?_)
        · refine y_st rfl rfl rfl rfl rfl (fun _ _ => rfl) ?_
          show yP (xg xs) (d + 1) 363 323 [(4, .int (0 : Int32)), (3, .int (0 : Int32)), (0, .int n), (1, .int x), (2, .int y)] [.int (0 : Int32)] m _
          exact y_iret rfl rfl rfl (by refine ⟨congrArg (fun z => some (Value.int z)) ?_, rfl⟩; unfold two_ cmp_ shf_ shl_; grind)
        · exact absurd h313 (by decide)
      by_cases h34_22 : n = (22 : Int32)
      · refine y_tsw (t := 324) rfl rfl (by rw [h34_22]; rfl) ?_
        refine y_st rfl rfl rfl rfl rfl (fun _ _ => rfl) ?_
        show yP (xg xs) (d + 1) 363 326 [(4, .int (0 : Int32)), (3, .int (0 : Int32)), (0, .int n), (1, .int x), (2, .int y)] [.int (0 : Int32)] m _
        refine y_zeq (t := 335) rfl rfl rfl (fun h326 => ?_) (fun h326 => ?_)
        · refine y_st rfl rfl rfl rfl rfl (fun _ _ => rfl) ?_
          show yP (xg xs) (d + 1) 363 336 [(4, .int (0 : Int32)), (3, .int (0 : Int32)), (0, .int n), (1, .int x), (2, .int y)] [.int (0 : Int32)] m _
          exact y_iret rfl rfl rfl (by refine ⟨congrArg (fun z => some (Value.int z)) ?_, rfl⟩; unfold two_ cmp_ shf_ shl_; grind)
        · exact absurd h326 (by decide)
      by_cases h34_23 : n = (23 : Int32)
      · refine y_tsw (t := 337) rfl rfl (by rw [h34_23]; rfl) ?_
        refine y_st rfl rfl rfl rfl rfl (fun _ _ => rfl) ?_
        refine y_st rfl rfl rfl rfl rfl (fun _ _ => rfl) ?_
        show yP (xg xs) (d + 1) 363 339 [(4, .int (0 : Int32)), (3, .int (0 : Int32)), (0, .int n), (1, .int x), (2, .int y)] [.int y, .int x] m _
        refine y_ige (t := 346) rfl rfl rfl (fun h339 => ?_) (fun h339 => ?_)
        · refine y_st rfl rfl rfl rfl rfl (fun _ _ => rfl) ?_
          show yP (xg xs) (d + 1) 363 347 [(4, .int (0 : Int32)), (3, .int (0 : Int32)), (0, .int n), (1, .int x), (2, .int y)] [.int y] m _
          exact y_iret rfl rfl rfl (by refine ⟨congrArg (fun z => some (Value.int z)) ?_, rfl⟩; unfold two_ cmp_ shf_ shl_; grind)
        · refine y_st rfl rfl rfl rfl rfl (fun _ _ => rfl) ?_
          refine y_st rfl rfl rfl rfl rfl (fun _ _ => rfl) ?_
          show yP (xg xs) (d + 1) 363 347 [(4, .int (0 : Int32)), (3, .int (0 : Int32)), (0, .int n), (1, .int x), (2, .int y)] [.int x] m _
          exact y_iret rfl rfl rfl (by refine ⟨congrArg (fun z => some (Value.int z)) ?_, rfl⟩; unfold two_ cmp_ shf_ shl_; grind)
      refine y_tsw (t := 348) rfl rfl ((if_pos (by have g0 := ne_lit (0 : Int32) 0 rfl h34_0; have g1 := ne_lit (1 : Int32) 1 rfl h34_1; have g2 := ne_lit (2 : Int32) 2 rfl h34_2; have g3 := ne_lit (3 : Int32) 3 rfl h34_3; have g4 := ne_lit (4 : Int32) 4 rfl h34_4; have g5 := ne_lit (5 : Int32) 5 rfl h34_5; have g6 := ne_lit (6 : Int32) 6 rfl h34_6; have g7 := ne_lit (7 : Int32) 7 rfl h34_7; have g8 := ne_lit (8 : Int32) 8 rfl h34_8; have g9 := ne_lit (9 : Int32) 9 rfl h34_9; have g10 := ne_lit (10 : Int32) 10 rfl h34_10; have g11 := ne_lit (11 : Int32) 11 rfl h34_11; have g12 := ne_lit (12 : Int32) 12 rfl h34_12; have g13 := ne_lit (13 : Int32) 13 rfl h34_13; have g14 := ne_lit (14 : Int32) 14 rfl h34_14; have g15 := ne_lit (15 : Int32) 15 rfl h34_15; have g16 := ne_lit (16 : Int32) 16 rfl h34_16; have g17 := ne_lit (17 : Int32) 17 rfl h34_17; have g18 := ne_lit (18 : Int32) 18 rfl h34_18; have g19 := ne_lit (19 : Int32) 19 rfl h34_19; have g20 := ne_lit (20 : Int32) 20 rfl h34_20; have g21 := ne_lit (21 : Int32) 21 rfl h34_21; have g22 := ne_lit (22 : Int32) 22 rfl h34_22; have g23 := ne_lit (23 : Int32) 23 rfl h34_23; omega)).trans rfl) ?_
      refine y_st rfl rfl rfl rfl rfl (fun _ _ => rfl) ?_
      refine y_st rfl rfl rfl rfl rfl (fun _ _ => rfl) ?_
      show yP (xg xs) (d + 1) 363 350 [(4, .int (0 : Int32)), (3, .int (0 : Int32)), (0, .int n), (1, .int x), (2, .int y)] [.int y, .int x] m _
      refine y_ile (t := 357) rfl rfl rfl (fun h350 => ?_) (fun h350 => ?_)
      · refine y_st rfl rfl rfl rfl rfl (fun _ _ => rfl) ?_
        show yP (xg xs) (d + 1) 363 358 [(4, .int (0 : Int32)), (3, .int (0 : Int32)), (0, .int n), (1, .int x), (2, .int y)] [.int y] m _
        exact y_iret rfl rfl rfl (by refine ⟨congrArg (fun z => some (Value.int z)) ?_, rfl⟩; unfold two_ cmp_ shf_ shl_; grind)
      · refine y_st rfl rfl rfl rfl rfl (fun _ _ => rfl) ?_
        refine y_st rfl rfl rfl rfl rfl (fun _ _ => rfl) ?_
        show yP (xg xs) (d + 1) 363 358 [(4, .int (0 : Int32)), (3, .int (0 : Int32)), (0, .int n), (1, .int x), (2, .int y)] [.int x] m _
        exact y_iret rfl rfl rfl (by refine ⟨congrArg (fun z => some (Value.int z)) ?_, rfl⟩; unfold two_ cmp_ shf_ shl_; grind)
    · refine y_st rfl rfl rfl rfl rfl (fun _ _ => rfl) ?_
      refine y_st rfl rfl rfl rfl rfl (fun _ _ => rfl) ?_
      show yP (xg xs) (d + 1) 363 23 [(3, .int (0 : Int32)), (0, .int n), (1, .int x), (2, .int y)] [.int (32 : Int32), .int y] m _
      refine y_ige (t := 30) rfl rfl rfl (fun h23 => ?_) (fun h23 => ?_)
      · refine y_st rfl rfl rfl rfl rfl (fun _ _ => rfl) ?_
        refine y_st rfl rfl rfl rfl rfl (fun _ _ => rfl) ?_
        refine y_st rfl rfl rfl rfl rfl (fun _ _ => rfl) ?_
        show yP (xg xs) (d + 1) 363 34 [(4, .int (0 : Int32)), (3, .int (0 : Int32)), (0, .int n), (1, .int x), (2, .int y)] [.int n] m _
        by_cases h34_0 : n = (0 : Int32)
        · refine y_tsw (t := 144) rfl rfl (by rw [h34_0]; rfl) ?_
          refine y_st rfl rfl rfl rfl rfl (fun _ _ => rfl) ?_
          refine y_st rfl rfl rfl rfl rfl (fun _ _ => rfl) ?_
          refine y_st rfl rfl rfl rfl rfl (fun _ _ => rfl) ?_
          show yP (xg xs) (d + 1) 363 147 [(4, .int (0 : Int32)), (3, .int (0 : Int32)), (0, .int n), (1, .int x), (2, .int y)] [.int (x + y)] m _
          refine y_call rfl rfl rfl rfl rfl (Nat.le_of_ble_eq_true rfl) (Nat.le_of_ble_eq_true rfl) rfl (by decide) (c362 xs d m (x + y)) (fun v6 m6 q6 => ?_)
          obtain ⟨rfl, e6⟩ := q6; rw [e6]; clear e6
          show yP (xg xs) (d + 1) 363 150 [(4, .int (0 : Int32)), (3, .int (0 : Int32)), (0, .int n), (1, .int x), (2, .int y)] [.int (w16 (x + y))] m _
          exact y_iret rfl rfl rfl (by refine ⟨congrArg (fun z => some (Value.int z)) ?_, rfl⟩; unfold two_ cmp_ shf_ shl_; grind)
        by_cases h34_1 : n = (1 : Int32)
        · refine y_tsw (t := 151) rfl rfl (by rw [h34_1]; rfl) ?_
          refine y_st rfl rfl rfl rfl rfl (fun _ _ => rfl) ?_
          refine y_st rfl rfl rfl rfl rfl (fun _ _ => rfl) ?_
          refine y_st rfl rfl rfl rfl rfl (fun _ _ => rfl) ?_
          show yP (xg xs) (d + 1) 363 154 [(4, .int (0 : Int32)), (3, .int (0 : Int32)), (0, .int n), (1, .int x), (2, .int y)] [.int (x - y)] m _
          refine y_call rfl rfl rfl rfl rfl (Nat.le_of_ble_eq_true rfl) (Nat.le_of_ble_eq_true rfl) rfl (by decide) (c362 xs d m (x - y)) (fun v7 m7 q7 => ?_)
          obtain ⟨rfl, e7⟩ := q7; rw [e7]; clear e7
          show yP (xg xs) (d + 1) 363 157 [(4, .int (0 : Int32)), (3, .int (0 : Int32)), (0, .int n), (1, .int x), (2, .int y)] [.int (w16 (x - y))] m _
          exact y_iret rfl rfl rfl (by refine ⟨congrArg (fun z => some (Value.int z)) ?_, rfl⟩; unfold two_ cmp_ shf_ shl_; grind)
        by_cases h34_2 : n = (2 : Int32)
        · refine y_tsw (t := 158) rfl rfl (by rw [h34_2]; rfl) ?_
          refine y_st rfl rfl rfl rfl rfl (fun _ _ => rfl) ?_
          refine y_st rfl rfl rfl rfl rfl (fun _ _ => rfl) ?_
          refine y_st rfl rfl rfl rfl rfl (fun _ _ => rfl) ?_
          show yP (xg xs) (d + 1) 363 161 [(4, .int (0 : Int32)), (3, .int (0 : Int32)), (0, .int n), (1, .int x), (2, .int y)] [.int (x * y)] m _
          refine y_call rfl rfl rfl rfl rfl (Nat.le_of_ble_eq_true rfl) (Nat.le_of_ble_eq_true rfl) rfl (by decide) (c362 xs d m (x * y)) (fun v8 m8 q8 => ?_)
          obtain ⟨rfl, e8⟩ := q8; rw [e8]; clear e8
          show yP (xg xs) (d + 1) 363 164 [(4, .int (0 : Int32)), (3, .int (0 : Int32)), (0, .int n), (1, .int x), (2, .int y)] [.int (w16 (x * y))] m _
          exact y_iret rfl rfl rfl (by refine ⟨congrArg (fun z => some (Value.int z)) ?_, rfl⟩; unfold two_ cmp_ shf_ shl_; grind)
        by_cases h34_3 : n = (3 : Int32)
        · refine y_tsw (t := 165) rfl rfl (by rw [h34_3]; rfl) ?_
          refine y_st rfl rfl rfl rfl rfl (fun _ _ => rfl) ?_
          refine y_st rfl rfl rfl rfl rfl (fun _ _ => rfl) ?_
          show yP (xg xs) (d + 1) 363 167 [(4, .int (0 : Int32)), (3, .int (0 : Int32)), (0, .int n), (1, .int x), (2, .int y)] [.int y, .int x] m _
          refine y_idiv rfl rfl (by grind) ?_
          show yP (xg xs) (d + 1) 363 168 [(4, .int (0 : Int32)), (3, .int (0 : Int32)), (0, .int n), (1, .int x), (2, .int y)] [.int (x / y)] m _
          refine y_call rfl rfl rfl rfl rfl (Nat.le_of_ble_eq_true rfl) (Nat.le_of_ble_eq_true rfl) rfl (by decide) (c362 xs d m (x / y)) (fun v9 m9 q9 => ?_)
          obtain ⟨rfl, e9⟩ := q9; rw [e9]; clear e9
          show yP (xg xs) (d + 1) 363 171 [(4, .int (0 : Int32)), (3, .int (0 : Int32)), (0, .int n), (1, .int x), (2, .int y)] [.int (w16 (x / y))] m _
          exact y_iret rfl rfl rfl (by refine ⟨congrArg (fun z => some (Value.int z)) ?_, rfl⟩; unfold two_ cmp_ shf_ shl_; grind)
        by_cases h34_4 : n = (4 : Int32)
        · refine y_tsw (t := 172) rfl rfl (by rw [h34_4]; rfl) ?_
          refine y_st rfl rfl rfl rfl rfl (fun _ _ => rfl) ?_
          refine y_st rfl rfl rfl rfl rfl (fun _ _ => rfl) ?_
          show yP (xg xs) (d + 1) 363 174 [(4, .int (0 : Int32)), (3, .int (0 : Int32)), (0, .int n), (1, .int x), (2, .int y)] [.int y, .int x] m _
          refine y_irem rfl rfl (by grind) ?_
          show yP (xg xs) (d + 1) 363 175 [(4, .int (0 : Int32)), (3, .int (0 : Int32)), (0, .int n), (1, .int x), (2, .int y)] [.int (x - x / y * y)] m _
          refine y_call rfl rfl rfl rfl rfl (Nat.le_of_ble_eq_true rfl) (Nat.le_of_ble_eq_true rfl) rfl (by decide) (c362 xs d m (x - x / y * y)) (fun v10 m10 q10 => ?_)
          obtain ⟨rfl, e10⟩ := q10; rw [e10]; clear e10
          show yP (xg xs) (d + 1) 363 178 [(4, .int (0 : Int32)), (3, .int (0 : Int32)), (0, .int n), (1, .int x), (2, .int y)] [.int (w16 (x - x / y * y))] m _
          exact y_iret rfl rfl rfl (by refine ⟨congrArg (fun z => some (Value.int z)) ?_, rfl⟩; unfold two_ cmp_ shf_ shl_; grind)
        by_cases h34_5 : n = (5 : Int32)
        · refine y_tsw (t := 179) rfl rfl (by rw [h34_5]; rfl) ?_
          refine y_st rfl rfl rfl rfl rfl (fun _ _ => rfl) ?_
          refine y_st rfl rfl rfl rfl rfl (fun _ _ => rfl) ?_
          refine y_st rfl rfl rfl rfl rfl (fun _ _ => rfl) ?_
          show yP (xg xs) (d + 1) 363 182 [(4, .int (0 : Int32)), (3, .int (0 : Int32)), (0, .int n), (1, .int x), (2, .int y)] [.int (x + y)] m _
          exact y_iret rfl rfl rfl (by refine ⟨congrArg (fun z => some (Value.int z)) ?_, rfl⟩; unfold two_ cmp_ shf_ shl_; grind)
        by_cases h34_6 : n = (6 : Int32)
        · refine y_tsw (t := 183) rfl rfl (by rw [h34_6]; rfl) ?_
          refine y_st rfl rfl rfl rfl rfl (fun _ _ => rfl) ?_
          refine y_st rfl rfl rfl rfl rfl (fun _ _ => rfl) ?_
          refine y_st rfl rfl rfl rfl rfl (fun _ _ => rfl) ?_
          show yP (xg xs) (d + 1) 363 186 [(4, .int (0 : Int32)), (3, .int (0 : Int32)), (0, .int n), (1, .int x), (2, .int y)] [.int (x - y)] m _
          exact y_iret rfl rfl rfl (by refine ⟨congrArg (fun z => some (Value.int z)) ?_, rfl⟩; unfold two_ cmp_ shf_ shl_; grind)
        by_cases h34_7 : n = (7 : Int32)
        · refine y_tsw (t := 187) rfl rfl (by rw [h34_7]; rfl) ?_
          refine y_st rfl rfl rfl rfl rfl (fun _ _ => rfl) ?_
          refine y_st rfl rfl rfl rfl rfl (fun _ _ => rfl) ?_
          refine y_st rfl rfl rfl rfl rfl (fun _ _ => rfl) ?_
          show yP (xg xs) (d + 1) 363 190 [(4, .int (0 : Int32)), (3, .int (0 : Int32)), (0, .int n), (1, .int x), (2, .int y)] [.int (x * y)] m _
          exact y_iret rfl rfl rfl (by refine ⟨congrArg (fun z => some (Value.int z)) ?_, rfl⟩; unfold two_ cmp_ shf_ shl_; grind)
        by_cases h34_8 : n = (8 : Int32)
        · refine y_tsw (t := 191) rfl rfl (by rw [h34_8]; rfl) ?_
          refine y_st rfl rfl rfl rfl rfl (fun _ _ => rfl) ?_
          refine y_st rfl rfl rfl rfl rfl (fun _ _ => rfl) ?_
          show yP (xg xs) (d + 1) 363 193 [(4, .int (0 : Int32)), (3, .int (0 : Int32)), (0, .int n), (1, .int x), (2, .int y)] [.int y, .int x] m _
          refine y_idiv rfl rfl (by grind) ?_
          show yP (xg xs) (d + 1) 363 194 [(4, .int (0 : Int32)), (3, .int (0 : Int32)), (0, .int n), (1, .int x), (2, .int y)] [.int (x / y)] m _
          exact y_iret rfl rfl rfl (by refine ⟨congrArg (fun z => some (Value.int z)) ?_, rfl⟩; unfold two_ cmp_ shf_ shl_; grind)
        by_cases h34_9 : n = (9 : Int32)
        · refine y_tsw (t := 195) rfl rfl (by rw [h34_9]; rfl) ?_
          refine y_st rfl rfl rfl rfl rfl (fun _ _ => rfl) ?_
          refine y_st rfl rfl rfl rfl rfl (fun _ _ => rfl) ?_
          show yP (xg xs) (d + 1) 363 197 [(4, .int (0 : Int32)), (3, .int (0 : Int32)), (0, .int n), (1, .int x), (2, .int y)] [.int y, .int x] m _
          refine y_irem rfl rfl (by grind) ?_
          show yP (xg xs) (d + 1) 363 198 [(4, .int (0 : Int32)), (3, .int (0 : Int32)), (0, .int n), (1, .int x), (2, .int y)] [.int (x - x / y * y)] m _
          exact y_iret rfl rfl rfl (by refine ⟨congrArg (fun z => some (Value.int z)) ?_, rfl⟩; unfold two_ cmp_ shf_ shl_; grind)
        by_cases h34_10 : n = (10 : Int32)
        · refine y_tsw (t := 199) rfl rfl (by rw [h34_10]; rfl) ?_
          refine y_st rfl rfl rfl rfl rfl (fun _ _ => rfl) ?_
          refine y_st rfl rfl rfl rfl rfl (fun _ _ => rfl) ?_
          refine y_st rfl rfl rfl rfl rfl (fun _ _ => rfl) ?_
          show yP (xg xs) (d + 1) 363 202 [(4, .int (0 : Int32)), (3, .int (0 : Int32)), (0, .int n), (1, .int x), (2, .int y)] [.int (x &&& y)] m _
          exact y_iret rfl rfl rfl (by refine ⟨congrArg (fun z => some (Value.int z)) ?_, rfl⟩; unfold two_ cmp_ shf_ shl_; grind)
        by_cases h34_11 : n = (11 : Int32)
        · refine y_tsw (t := 203) rfl rfl (by rw [h34_11]; rfl) ?_
          refine y_st rfl rfl rfl rfl rfl (fun _ _ => rfl) ?_
          refine y_st rfl rfl rfl rfl rfl (fun _ _ => rfl) ?_
          refine y_st rfl rfl rfl rfl rfl (fun _ _ => rfl) ?_
          show yP (xg xs) (d + 1) 363 206 [(4, .int (0 : Int32)), (3, .int (0 : Int32)), (0, .int n), (1, .int x), (2, .int y)] [.int (x ||| y)] m _
          exact y_iret rfl rfl rfl (by refine ⟨congrArg (fun z => some (Value.int z)) ?_, rfl⟩; unfold two_ cmp_ shf_ shl_; grind)
        by_cases h34_12 : n = (12 : Int32)
        · refine y_tsw (t := 207) rfl rfl (by rw [h34_12]; rfl) ?_
          refine y_st rfl rfl rfl rfl rfl (fun _ _ => rfl) ?_
          refine y_st rfl rfl rfl rfl rfl (fun _ _ => rfl) ?_
          refine y_st rfl rfl rfl rfl rfl (fun _ _ => rfl) ?_
          show yP (xg xs) (d + 1) 363 210 [(4, .int (0 : Int32)), (3, .int (0 : Int32)), (0, .int n), (1, .int x), (2, .int y)] [.int (x ^^^ y)] m _
          exact y_iret rfl rfl rfl (by refine ⟨congrArg (fun z => some (Value.int z)) ?_, rfl⟩; unfold two_ cmp_ shf_ shl_; grind)
        by_cases h34_13 : n = (13 : Int32)
        · refine y_tsw (t := 211) rfl rfl (by rw [h34_13]; rfl) ?_
          refine y_st rfl rfl rfl rfl rfl (fun _ _ => rfl) ?_
          refine y_st rfl rfl rfl rfl rfl (fun _ _ => rfl) ?_
          show yP (xg xs) (d + 1) 363 213 [(4, .int (0 : Int32)), (3, .int (0 : Int32)), (0, .int n), (1, .int x), (2, .int y)] [.int y, .int x] m _
          refine y_ine (t := 220) rfl rfl rfl (fun h213 => ?_) (fun h213 => ?_)
          · refine y_st rfl rfl rfl rfl rfl (fun _ _ => rfl) ?_
            show yP (xg xs) (d + 1) 363 221 [(4, .int (0 : Int32)), (3, .int (0 : Int32)), (0, .int n), (1, .int x), (2, .int y)] [.int (0 : Int32)] m _
            exact y_iret rfl rfl rfl (by refine ⟨congrArg (fun z => some (Value.int z)) ?_, rfl⟩; unfold two_ cmp_ shf_ shl_; grind)
          · refine y_st rfl rfl rfl rfl rfl (fun _ _ => rfl) ?_
            refine y_st rfl rfl rfl rfl rfl (fun _ _ => rfl) ?_
            show yP (xg xs) (d + 1) 363 221 [(4, .int (0 : Int32)), (3, .int (0 : Int32)), (0, .int n), (1, .int x), (2, .int y)] [.int (1 : Int32)] m _
            exact y_iret rfl rfl rfl (by refine ⟨congrArg (fun z => some (Value.int z)) ?_, rfl⟩; unfold two_ cmp_ shf_ shl_; grind)
        by_cases h34_14 : n = (14 : Int32)
        · refine y_tsw (t := 222) rfl rfl (by rw [h34_14]; rfl) ?_
          refine y_st rfl rfl rfl rfl rfl (fun _ _ => rfl) ?_
          refine y_st rfl rfl rfl rfl rfl (fun _ _ => rfl) ?_
          show yP (xg xs) (d + 1) 363 224 [(4, .int (0 : Int32)), (3, .int (0 : Int32)), (0, .int n), (1, .int x), (2, .int y)] [.int y, .int x] m _
          refine y_ieq (t := 231) rfl rfl rfl (fun h224 => ?_) (fun h224 => ?_)
          · refine y_st rfl rfl rfl rfl rfl (fun _ _ => rfl) ?_
            show yP (xg xs) (d + 1) 363 232 [(4, .int (0 : Int32)), (3, .int (0 : Int32)), (0, .int n), (1, .int x), (2, .int y)] [.int (0 : Int32)] m _
            exact y_iret rfl rfl rfl (by refine ⟨congrArg (fun z => some (Value.int z)) ?_, rfl⟩; unfold two_ cmp_ shf_ shl_; grind)
          · refine y_st rfl rfl rfl rfl rfl (fun _ _ => rfl) ?_
            refine y_st rfl rfl rfl rfl rfl (fun _ _ => rfl) ?_
            show yP (xg xs) (d + 1) 363 232 [(4, .int (0 : Int32)), (3, .int (0 : Int32)), (0, .int n), (1, .int x), (2, .int y)] [.int (1 : Int32)] m _
            exact y_iret rfl rfl rfl (by refine ⟨congrArg (fun z => some (Value.int z)) ?_, rfl⟩; unfold two_ cmp_ shf_ shl_; grind)
        by_cases h34_15 : n = (15 : Int32)
        · refine y_tsw (t := 233) rfl rfl (by rw [h34_15]; rfl) ?_
          refine y_st rfl rfl rfl rfl rfl (fun _ _ => rfl) ?_
          refine y_st rfl rfl rfl rfl rfl (fun _ _ => rfl) ?_
          show yP (xg xs) (d + 1) 363 235 [(4, .int (0 : Int32)), (3, .int (0 : Int32)), (0, .int n), (1, .int x), (2, .int y)] [.int y, .int x] m _
          refine y_ige (t := 242) rfl rfl rfl (fun h235 => ?_) (fun h235 => ?_)
          · refine y_st rfl rfl rfl rfl rfl (fun _ _ => rfl) ?_
            show yP (xg xs) (d + 1) 363 243 [(4, .int (0 : Int32)), (3, .int (0 : Int32)), (0, .int n), (1, .int x), (2, .int y)] [.int (0 : Int32)] m _
            exact y_iret rfl rfl rfl (by refine ⟨congrArg (fun z => some (Value.int z)) ?_, rfl⟩; unfold two_ cmp_ shf_ shl_; grind)
          · refine y_st rfl rfl rfl rfl rfl (fun _ _ => rfl) ?_
            refine y_st rfl rfl rfl rfl rfl (fun _ _ => rfl) ?_
            show yP (xg xs) (d + 1) 363 243 [(4, .int (0 : Int32)), (3, .int (0 : Int32)), (0, .int n), (1, .int x), (2, .int y)] [.int (1 : Int32)] m _
            exact y_iret rfl rfl rfl (by refine ⟨congrArg (fun z => some (Value.int z)) ?_, rfl⟩; unfold two_ cmp_ shf_ shl_; grind)
        by_cases h34_16 : n = (16 : Int32)
        · refine y_tsw (t := 244) rfl rfl (by rw [h34_16]; rfl) ?_
          refine y_st rfl rfl rfl rfl rfl (fun _ _ => rfl) ?_
          refine y_st rfl rfl rfl rfl rfl (fun _ _ => rfl) ?_
          show yP (xg xs) (d + 1) 363 246 [(4, .int (0 : Int32)), (3, .int (0 : Int32)), (0, .int n), (1, .int x), (2, .int y)] [.int y, .int x] m _
          refine y_ile (t := 253) rfl rfl rfl (fun h246 => ?_) (fun h246 => ?_)
          · refine y_st rfl rfl rfl rfl rfl (fun _ _ => rfl) ?_
            show yP (xg xs) (d + 1) 363 254 [(4, .int (0 : Int32)), (3, .int (0 : Int32)), (0, .int n), (1, .int x), (2, .int y)] [.int (0 : Int32)] m _
            exact y_iret rfl rfl rfl (by refine ⟨congrArg (fun z => some (Value.int z)) ?_, rfl⟩; unfold two_ cmp_ shf_ shl_; grind)
          · refine y_st rfl rfl rfl rfl rfl (fun _ _ => rfl) ?_
            refine y_st rfl rfl rfl rfl rfl (fun _ _ => rfl) ?_
            show yP (xg xs) (d + 1) 363 254 [(4, .int (0 : Int32)), (3, .int (0 : Int32)), (0, .int n), (1, .int x), (2, .int y)] [.int (1 : Int32)] m _
            exact y_iret rfl rfl rfl (by refine ⟨congrArg (fun z => some (Value.int z)) ?_, rfl⟩; unfold two_ cmp_ shf_ shl_; grind)
        by_cases h34_17 : n = (17 : Int32)
        · refine y_tsw (t := 255) rfl rfl (by rw [h34_17]; rfl) ?_
          refine y_st rfl rfl rfl rfl rfl (fun _ _ => rfl) ?_
          refine y_st rfl rfl rfl rfl rfl (fun _ _ => rfl) ?_
          show yP (xg xs) (d + 1) 363 257 [(4, .int (0 : Int32)), (3, .int (0 : Int32)), (0, .int n), (1, .int x), (2, .int y)] [.int y, .int x] m _
          refine y_igt (t := 264) rfl rfl rfl (fun h257 => ?_) (fun h257 => ?_)
          · refine y_st rfl rfl rfl rfl rfl (fun _ _ => rfl) ?_
            show yP (xg xs) (d + 1) 363 265 [(4, .int (0 : Int32)), (3, .int (0 : Int32)), (0, .int n), (1, .int x), (2, .int y)] [.int (0 : Int32)] m _
            exact y_iret rfl rfl rfl (by refine ⟨congrArg (fun z => some (Value.int z)) ?_, rfl⟩; unfold two_ cmp_ shf_ shl_; grind)
          · refine y_st rfl rfl rfl rfl rfl (fun _ _ => rfl) ?_
            refine y_st rfl rfl rfl rfl rfl (fun _ _ => rfl) ?_
            show yP (xg xs) (d + 1) 363 265 [(4, .int (0 : Int32)), (3, .int (0 : Int32)), (0, .int n), (1, .int x), (2, .int y)] [.int (1 : Int32)] m _
            exact y_iret rfl rfl rfl (by refine ⟨congrArg (fun z => some (Value.int z)) ?_, rfl⟩; unfold two_ cmp_ shf_ shl_; grind)
        by_cases h34_18 : n = (18 : Int32)
        · refine y_tsw (t := 266) rfl rfl (by rw [h34_18]; rfl) ?_
          refine y_st rfl rfl rfl rfl rfl (fun _ _ => rfl) ?_
          refine y_st rfl rfl rfl rfl rfl (fun _ _ => rfl) ?_
          show yP (xg xs) (d + 1) 363 268 [(4, .int (0 : Int32)), (3, .int (0 : Int32)), (0, .int n), (1, .int x), (2, .int y)] [.int y, .int x] m _
          refine y_ilt (t := 275) rfl rfl rfl (fun h268 => ?_) (fun h268 => ?_)
          · refine y_st rfl rfl rfl rfl rfl (fun _ _ => rfl) ?_
            show yP (xg xs) (d + 1) 363 276 [(4, .int (0 : Int32)), (3, .int (0 : Int32)), (0, .int n), (1, .int x), (2, .int y)] [.int (0 : Int32)] m _
            exact y_iret rfl rfl rfl (by refine ⟨congrArg (fun z => some (Value.int z)) ?_, rfl⟩; unfold two_ cmp_ shf_ shl_; grind)
          · refine y_st rfl rfl rfl rfl rfl (fun _ _ => rfl) ?_
            refine y_st rfl rfl rfl rfl rfl (fun _ _ => rfl) ?_
            show yP (xg xs) (d + 1) 363 276 [(4, .int (0 : Int32)), (3, .int (0 : Int32)), (0, .int n), (1, .int x), (2, .int y)] [.int (1 : Int32)] m _
            exact y_iret rfl rfl rfl (by refine ⟨congrArg (fun z => some (Value.int z)) ?_, rfl⟩; unfold two_ cmp_ shf_ shl_; grind)
        by_cases h34_19 : n = (19 : Int32)
        · refine y_tsw (t := 277) rfl rfl (by rw [h34_19]; rfl) ?_
          refine y_st rfl rfl rfl rfl rfl (fun _ _ => rfl) ?_
          show yP (xg xs) (d + 1) 363 278 [(4, .int (0 : Int32)), (3, .int (0 : Int32)), (0, .int n), (1, .int x), (2, .int y)] [.int (0 : Int32)] m _
          refine y_zeq (t := 290) rfl rfl rfl (fun h278 => ?_) (fun h278 => ?_)
          · refine y_st rfl rfl rfl rfl rfl (fun _ _ => rfl) ?_
            show yP (xg xs) (d + 1) 363 291 [(4, .int (0 : Int32)), (3, .int (0 : Int32)), (0, .int n), (1, .int x), (2, .int y)] [.int (0 : Int32)] m _
            exact y_iret rfl rfl rfl (by refine ⟨congrArg (fun z => some (Value.int z)) ?_, rfl⟩; unfold two_ cmp_ shf_ shl_; grind)
          · exact absurd h278 (by decide)
        by_cases h34_20 : n = (20 : Int32)
        · refine y_tsw (t := 292) rfl rfl (by rw [h34_20]; rfl) ?_
          refine y_st rfl rfl rfl rfl rfl (fun _ _ => rfl) ?_
          show yP (xg xs) (d + 1) 363 293 [(4, .int (0 : Int32)), (3, .int (0 : Int32)), (0, .int n), (1, .int x), (2, .int y)] [.int (0 : Int32)] m _
          refine y_zeq (t := 309) rfl rfl rfl (fun h293 => ?_) (fun h293 => ?_)
          · refine y_st rfl rfl rfl rfl rfl (fun _ _ => rfl) ?_
            show yP (xg xs) (d + 1) 363 310 [(4, .int (0 : Int32)), (3, .int (0 : Int32)), (0, .int n), (1, .int x), (2, .int y)] [.int (0 : Int32)] m _
            exact y_iret rfl rfl rfl (by refine ⟨congrArg (fun z => some (Value.int z)) ?_, rfl⟩; unfold two_ cmp_ shf_ shl_; grind)
          · exact absurd h293 (by decide)
        by_cases h34_21 : n = (21 : Int32)
        · refine y_tsw (t := 311) rfl rfl (by rw [h34_21]; rfl) ?_
          refine y_st rfl rfl rfl rfl rfl (fun _ _ => rfl) ?_
          show yP (xg xs) (d + 1) 363 313 [(4, .int (0 : Int32)), (3, .int (0 : Int32)), (0, .int n), (1, .int x), (2, .int y)] [.int (0 : Int32)] m _
          refine y_zeq (t := 322) rfl rfl rfl (fun h313 => ?_) (fun h313 => ?_)
          · refine y_st rfl rfl rfl rfl rfl (fun _ _ => rfl) ?_
            show yP (xg xs) (d + 1) 363 323 [(4, .int (0 : Int32)), (3, .int (0 : Int32)), (0, .int n), (1, .int x), (2, .int y)] [.int (0 : Int32)] m _
            exact y_iret rfl rfl rfl (by refine ⟨congrArg (fun z => some (Value.int z)) ?_, rfl⟩; unfold two_ cmp_ shf_ shl_; grind)
          · exact absurd h313 (by decide)
        by_cases h34_22 : n = (22 : Int32)
        · refine y_tsw (t := 324) rfl rfl (by rw [h34_22]; rfl) ?_
          refine y_st rfl rfl rfl rfl rfl (fun _ _ => rfl) ?_
          show yP (xg xs) (d + 1) 363 326 [(4, .int (0 : Int32)), (3, .int (0 : Int32)), (0, .int n), (1, .int x), (2, .int y)] [.int (0 : Int32)] m _
          refine y_zeq (t := 335) rfl rfl rfl (fun h326 => ?_) (fun h326 => ?_)
          · refine y_st rfl rfl rfl rfl rfl (fun _ _ => rfl) ?_
            show yP (xg xs) (d + 1) 363 336 [(4, .int (0 : Int32)), (3, .int (0 : Int32)), (0, .int n), (1, .int x), (2, .int y)] [.int (0 : Int32)] m _
            exact y_iret rfl rfl rfl (by refine ⟨congrArg (fun z => some (Value.int z)) ?_, rfl⟩; unfold two_ cmp_ shf_ shl_; grind)
          · exact absurd h326 (by decide)
        by_cases h34_23 : n = (23 : Int32)
        · refine y_tsw (t := 337) rfl rfl (by rw [h34_23]; rfl) ?_
          refine y_st rfl rfl rfl rfl rfl (fun _ _ => rfl) ?_
          refine y_st rfl rfl rfl rfl rfl (fun _ _ => rfl) ?_
          show yP (xg xs) (d + 1) 363 339 [(4, .int (0 : Int32)), (3, .int (0 : Int32)), (0, .int n), (1, .int x), (2, .int y)] [.int y, .int x] m _
          refine y_ige (t := 346) rfl rfl rfl (fun h339 => ?_) (fun h339 => ?_)
          · refine y_st rfl rfl rfl rfl rfl (fun _ _ => rfl) ?_
            show yP (xg xs) (d + 1) 363 347 [(4, .int (0 : Int32)), (3, .int (0 : Int32)), (0, .int n), (1, .int x), (2, .int y)] [.int y] m _
            exact y_iret rfl rfl rfl (by refine ⟨congrArg (fun z => some (Value.int z)) ?_, rfl⟩; unfold two_ cmp_ shf_ shl_; grind)
          · refine y_st rfl rfl rfl rfl rfl (fun _ _ => rfl) ?_
            refine y_st rfl rfl rfl rfl rfl (fun _ _ => rfl) ?_
            show yP (xg xs) (d + 1) 363 347 [(4, .int (0 : Int32)), (3, .int (0 : Int32)), (0, .int n), (1, .int x), (2, .int y)] [.int x] m _
            exact y_iret rfl rfl rfl (by refine ⟨congrArg (fun z => some (Value.int z)) ?_, rfl⟩; unfold two_ cmp_ shf_ shl_; grind)
        refine y_tsw (t := 348) rfl rfl ((if_pos (by have g0 := ne_lit (0 : Int32) 0 rfl h34_0; have g1 := ne_lit (1 : Int32) 1 rfl h34_1; have g2 := ne_lit (2 : Int32) 2 rfl h34_2; have g3 := ne_lit (3 : Int32) 3 rfl h34_3; have g4 := ne_lit (4 : Int32) 4 rfl h34_4; have g5 := ne_lit (5 : Int32) 5 rfl h34_5; have g6 := ne_lit (6 : Int32) 6 rfl h34_6; have g7 := ne_lit (7 : Int32) 7 rfl h34_7; have g8 := ne_lit (8 : Int32) 8 rfl h34_8; have g9 := ne_lit (9 : Int32) 9 rfl h34_9; have g10 := ne_lit (10 : Int32) 10 rfl h34_10; have g11 := ne_lit (11 : Int32) 11 rfl h34_11; have g12 := ne_lit (12 : Int32) 12 rfl h34_12; have g13 := ne_lit (13 : Int32) 13 rfl h34_13; have g14 := ne_lit (14 : Int32) 14 rfl h34_14; have g15 := ne_lit (15 : Int32) 15 rfl h34_15; have g16 := ne_lit (16 : Int32) 16 rfl h34_16; have g17 := ne_lit (17 : Int32) 17 rfl h34_17; have g18 := ne_lit (18 : Int32) 18 rfl h34_18; have g19 := ne_lit (19 : Int32) 19 rfl h34_19; have g20 := ne_lit (20 : Int32) 20 rfl h34_20; have g21 := ne_lit (21 : Int32) 21 rfl h34_21; have g22 := ne_lit (22 : Int32) 22 rfl h34_22; have g23 := ne_lit (23 : Int32) 23 rfl h34_23; omega)).trans rfl) ?_
        refine y_st rfl rfl rfl rfl rfl (fun _ _ => rfl) ?_
        refine y_st rfl rfl rfl rfl rfl (fun _ _ => rfl) ?_
        show yP (xg xs) (d + 1) 363 350 [(4, .int (0 : Int32)), (3, .int (0 : Int32)), (0, .int n), (1, .int x), (2, .int y)] [.int y, .int x] m _
        refine y_ile (t := 357) rfl rfl rfl (fun h350 => ?_) (fun h350 => ?_)
        · refine y_st rfl rfl rfl rfl rfl (fun _ _ => rfl) ?_
          show yP (xg xs) (d + 1) 363 358 [(4, .int (0 : Int32)), (3, .int (0 : Int32)), (0, .int n), (1, .int x), (2, .int y)] [.int y] m _
          exact y_iret rfl rfl rfl (by refine ⟨congrArg (fun z => some (Value.int z)) ?_, rfl⟩; unfold two_ cmp_ shf_ shl_; grind)
        · refine y_st rfl rfl rfl rfl rfl (fun _ _ => rfl) ?_
          refine y_st rfl rfl rfl rfl rfl (fun _ _ => rfl) ?_
          show yP (xg xs) (d + 1) 363 358 [(4, .int (0 : Int32)), (3, .int (0 : Int32)), (0, .int n), (1, .int x), (2, .int y)] [.int x] m _
          exact y_iret rfl rfl rfl (by refine ⟨congrArg (fun z => some (Value.int z)) ?_, rfl⟩; unfold two_ cmp_ shf_ shl_; grind)
      · refine y_st rfl rfl rfl rfl rfl (fun _ _ => rfl) ?_
        refine y_st rfl rfl rfl rfl rfl (fun _ _ => rfl) ?_
        refine y_st rfl rfl rfl rfl rfl (fun _ _ => rfl) ?_
        refine y_st rfl rfl rfl rfl rfl (fun _ _ => rfl) ?_
        show yP (xg xs) (d + 1) 363 34 [(4, .int (1 : Int32)), (3, .int (0 : Int32)), (0, .int n), (1, .int x), (2, .int y)] [.int n] m _
        by_cases h34_0 : n = (0 : Int32)
        · refine y_tsw (t := 144) rfl rfl (by rw [h34_0]; rfl) ?_
          refine y_st rfl rfl rfl rfl rfl (fun _ _ => rfl) ?_
          refine y_st rfl rfl rfl rfl rfl (fun _ _ => rfl) ?_
          refine y_st rfl rfl rfl rfl rfl (fun _ _ => rfl) ?_
          show yP (xg xs) (d + 1) 363 147 [(4, .int (1 : Int32)), (3, .int (0 : Int32)), (0, .int n), (1, .int x), (2, .int y)] [.int (x + y)] m _
          refine y_call rfl rfl rfl rfl rfl (Nat.le_of_ble_eq_true rfl) (Nat.le_of_ble_eq_true rfl) rfl (by decide) (c362 xs d m (x + y)) (fun v11 m11 q11 => ?_)
          obtain ⟨rfl, e11⟩ := q11; rw [e11]; clear e11
          show yP (xg xs) (d + 1) 363 150 [(4, .int (1 : Int32)), (3, .int (0 : Int32)), (0, .int n), (1, .int x), (2, .int y)] [.int (w16 (x + y))] m _
          exact y_iret rfl rfl rfl (by refine ⟨congrArg (fun z => some (Value.int z)) ?_, rfl⟩; unfold two_ cmp_ shf_ shl_; grind)
        by_cases h34_1 : n = (1 : Int32)
        · refine y_tsw (t := 151) rfl rfl (by rw [h34_1]; rfl) ?_
          refine y_st rfl rfl rfl rfl rfl (fun _ _ => rfl) ?_
          refine y_st rfl rfl rfl rfl rfl (fun _ _ => rfl) ?_
          refine y_st rfl rfl rfl rfl rfl (fun _ _ => rfl) ?_
          show yP (xg xs) (d + 1) 363 154 [(4, .int (1 : Int32)), (3, .int (0 : Int32)), (0, .int n), (1, .int x), (2, .int y)] [.int (x - y)] m _
          refine y_call rfl rfl rfl rfl rfl (Nat.le_of_ble_eq_true rfl) (Nat.le_of_ble_eq_true rfl) rfl (by decide) (c362 xs d m (x - y)) (fun v12 m12 q12 => ?_)
          obtain ⟨rfl, e12⟩ := q12; rw [e12]; clear e12
          show yP (xg xs) (d + 1) 363 157 [(4, .int (1 : Int32)), (3, .int (0 : Int32)), (0, .int n), (1, .int x), (2, .int y)] [.int (w16 (x - y))] m _
          exact y_iret rfl rfl rfl (by refine ⟨congrArg (fun z => some (Value.int z)) ?_, rfl⟩; unfold two_ cmp_ shf_ shl_; grind)
        by_cases h34_2 : n = (2 : Int32)
        · refine y_tsw (t := 158) rfl rfl (by rw [h34_2]; rfl) ?_
          refine y_st rfl rfl rfl rfl rfl (fun _ _ => rfl) ?_
          refine y_st rfl rfl rfl rfl rfl (fun _ _ => rfl) ?_
          refine y_st rfl rfl rfl rfl rfl (fun _ _ => rfl) ?_
          show yP (xg xs) (d + 1) 363 161 [(4, .int (1 : Int32)), (3, .int (0 : Int32)), (0, .int n), (1, .int x), (2, .int y)] [.int (x * y)] m _
          refine y_call rfl rfl rfl rfl rfl (Nat.le_of_ble_eq_true rfl) (Nat.le_of_ble_eq_true rfl) rfl (by decide) (c362 xs d m (x * y)) (fun v13 m13 q13 => ?_)
          obtain ⟨rfl, e13⟩ := q13; rw [e13]; clear e13
          show yP (xg xs) (d + 1) 363 164 [(4, .int (1 : Int32)), (3, .int (0 : Int32)), (0, .int n), (1, .int x), (2, .int y)] [.int (w16 (x * y))] m _
          exact y_iret rfl rfl rfl (by refine ⟨congrArg (fun z => some (Value.int z)) ?_, rfl⟩; unfold two_ cmp_ shf_ shl_; grind)
        by_cases h34_3 : n = (3 : Int32)
        · refine y_tsw (t := 165) rfl rfl (by rw [h34_3]; rfl) ?_
          refine y_st rfl rfl rfl rfl rfl (fun _ _ => rfl) ?_
          refine y_st rfl rfl rfl rfl rfl (fun _ _ => rfl) ?_
          show yP (xg xs) (d + 1) 363 167 [(4, .int (1 : Int32)), (3, .int (0 : Int32)), (0, .int n), (1, .int x), (2, .int y)] [.int y, .int x] m _
          refine y_idiv rfl rfl (by grind) ?_
          show yP (xg xs) (d + 1) 363 168 [(4, .int (1 : Int32)), (3, .int (0 : Int32)), (0, .int n), (1, .int x), (2, .int y)] [.int (x / y)] m _
          refine y_call rfl rfl rfl rfl rfl (Nat.le_of_ble_eq_true rfl) (Nat.le_of_ble_eq_true rfl) rfl (by decide) (c362 xs d m (x / y)) (fun v14 m14 q14 => ?_)
          obtain ⟨rfl, e14⟩ := q14; rw [e14]; clear e14
          show yP (xg xs) (d + 1) 363 171 [(4, .int (1 : Int32)), (3, .int (0 : Int32)), (0, .int n), (1, .int x), (2, .int y)] [.int (w16 (x / y))] m _
          exact y_iret rfl rfl rfl (by refine ⟨congrArg (fun z => some (Value.int z)) ?_, rfl⟩; unfold two_ cmp_ shf_ shl_; grind)
        by_cases h34_4 : n = (4 : Int32)
        · refine y_tsw (t := 172) rfl rfl (by rw [h34_4]; rfl) ?_
          refine y_st rfl rfl rfl rfl rfl (fun _ _ => rfl) ?_
          refine y_st rfl rfl rfl rfl rfl (fun _ _ => rfl) ?_
          show yP (xg xs) (d + 1) 363 174 [(4, .int (1 : Int32)), (3, .int (0 : Int32)), (0, .int n), (1, .int x), (2, .int y)] [.int y, .int x] m _
          refine y_irem rfl rfl (by grind) ?_
          show yP (xg xs) (d + 1) 363 175 [(4, .int (1 : Int32)), (3, .int (0 : Int32)), (0, .int n), (1, .int x), (2, .int y)] [.int (x - x / y * y)] m _
          refine y_call rfl rfl rfl rfl rfl (Nat.le_of_ble_eq_true rfl) (Nat.le_of_ble_eq_true rfl) rfl (by decide) (c362 xs d m (x - x / y * y)) (fun v15 m15 q15 => ?_)
          obtain ⟨rfl, e15⟩ := q15; rw [e15]; clear e15
          show yP (xg xs) (d + 1) 363 178 [(4, .int (1 : Int32)), (3, .int (0 : Int32)), (0, .int n), (1, .int x), (2, .int y)] [.int (w16 (x - x / y * y))] m _
          exact y_iret rfl rfl rfl (by refine ⟨congrArg (fun z => some (Value.int z)) ?_, rfl⟩; unfold two_ cmp_ shf_ shl_; grind)
        by_cases h34_5 : n = (5 : Int32)
        · refine y_tsw (t := 179) rfl rfl (by rw [h34_5]; rfl) ?_
          refine y_st rfl rfl rfl rfl rfl (fun _ _ => rfl) ?_
          refine y_st rfl rfl rfl rfl rfl (fun _ _ => rfl) ?_
          refine y_st rfl rfl rfl rfl rfl (fun _ _ => rfl) ?_
          show yP (xg xs) (d + 1) 363 182 [(4, .int (1 : Int32)), (3, .int (0 : Int32)), (0, .int n), (1, .int x), (2, .int y)] [.int (x + y)] m _
          exact y_iret rfl rfl rfl (by refine ⟨congrArg (fun z => some (Value.int z)) ?_, rfl⟩; unfold two_ cmp_ shf_ shl_; grind)
        by_cases h34_6 : n = (6 : Int32)
        · refine y_tsw (t := 183) rfl rfl (by rw [h34_6]; rfl) ?_
          refine y_st rfl rfl rfl rfl rfl (fun _ _ => rfl) ?_
          refine y_st rfl rfl rfl rfl rfl (fun _ _ => rfl) ?_
          refine y_st rfl rfl rfl rfl rfl (fun _ _ => rfl) ?_
          show yP (xg xs) (d + 1) 363 186 [(4, .int (1 : Int32)), (3, .int (0 : Int32)), (0, .int n), (1, .int x), (2, .int y)] [.int (x - y)] m _
          exact y_iret rfl rfl rfl (by refine ⟨congrArg (fun z => some (Value.int z)) ?_, rfl⟩; unfold two_ cmp_ shf_ shl_; grind)
        by_cases h34_7 : n = (7 : Int32)
        · refine y_tsw (t := 187) rfl rfl (by rw [h34_7]; rfl) ?_
          refine y_st rfl rfl rfl rfl rfl (fun _ _ => rfl) ?_
          refine y_st rfl rfl rfl rfl rfl (fun _ _ => rfl) ?_
          refine y_st rfl rfl rfl rfl rfl (fun _ _ => rfl) ?_
          show yP (xg xs) (d + 1) 363 190 [(4, .int (1 : Int32)), (3, .int (0 : Int32)), (0, .int n), (1, .int x), (2, .int y)] [.int (x * y)] m _
          exact y_iret rfl rfl rfl (by refine ⟨congrArg (fun z => some (Value.int z)) ?_, rfl⟩; unfold two_ cmp_ shf_ shl_; grind)
        by_cases h34_8 : n = (8 : Int32)
        · refine y_tsw (t := 191) rfl rfl (by rw [h34_8]; rfl) ?_
          refine y_st rfl rfl rfl rfl rfl (fun _ _ => rfl) ?_
          refine y_st rfl rfl rfl rfl rfl (fun _ _ => rfl) ?_
          show yP (xg xs) (d + 1) 363 193 [(4, .int (1 : Int32)), (3, .int (0 : Int32)), (0, .int n), (1, .int x), (2, .int y)] [.int y, .int x] m _
          refine y_idiv rfl rfl (by grind) ?_
          show yP (xg xs) (d + 1) 363 194 [(4, .int (1 : Int32)), (3, .int (0 : Int32)), (0, .int n), (1, .int x), (2, .int y)] [.int (x / y)] m _
          exact y_iret rfl rfl rfl (by refine ⟨congrArg (fun z => some (Value.int z)) ?_, rfl⟩; unfold two_ cmp_ shf_ shl_; grind)
        by_cases h34_9 : n = (9 : Int32)
        · refine y_tsw (t := 195) rfl rfl (by rw [h34_9]; rfl) ?_
          refine y_st rfl rfl rfl rfl rfl (fun _ _ => rfl) ?_
          refine y_st rfl rfl rfl rfl rfl (fun _ _ => rfl) ?_
          show yP (xg xs) (d + 1) 363 197 [(4, .int (1 : Int32)), (3, .int (0 : Int32)), (0, .int n), (1, .int x), (2, .int y)] [.int y, .int x] m _
          refine y_irem rfl rfl (by grind) ?_
          show yP (xg xs) (d + 1) 363 198 [(4, .int (1 : Int32)), (3, .int (0 : Int32)), (0, .int n), (1, .int x), (2, .int y)] [.int (x - x / y * y)] m _
          exact y_iret rfl rfl rfl (by refine ⟨congrArg (fun z => some (Value.int z)) ?_, rfl⟩; unfold two_ cmp_ shf_ shl_; grind)
        by_cases h34_10 : n = (10 : Int32)
        · refine y_tsw (t := 199) rfl rfl (by rw [h34_10]; rfl) ?_
          refine y_st rfl rfl rfl rfl rfl (fun _ _ => rfl) ?_
          refine y_st rfl rfl rfl rfl rfl (fun _ _ => rfl) ?_
          refine y_st rfl rfl rfl rfl rfl (fun _ _ => rfl) ?_
          show yP (xg xs) (d + 1) 363 202 [(4, .int (1 : Int32)), (3, .int (0 : Int32)), (0, .int n), (1, .int x), (2, .int y)] [.int (x &&& y)] m _
          exact y_iret rfl rfl rfl (by refine ⟨congrArg (fun z => some (Value.int z)) ?_, rfl⟩; unfold two_ cmp_ shf_ shl_; grind)
        by_cases h34_11 : n = (11 : Int32)
        · refine y_tsw (t := 203) rfl rfl (by rw [h34_11]; rfl) ?_
          refine y_st rfl rfl rfl rfl rfl (fun _ _ => rfl) ?_
          refine y_st rfl rfl rfl rfl rfl (fun _ _ => rfl) ?_
          refine y_st rfl rfl rfl rfl rfl (fun _ _ => rfl) ?_
          show yP (xg xs) (d + 1) 363 206 [(4, .int (1 : Int32)), (3, .int (0 : Int32)), (0, .int n), (1, .int x), (2, .int y)] [.int (x ||| y)] m _
          exact y_iret rfl rfl rfl (by refine ⟨congrArg (fun z => some (Value.int z)) ?_, rfl⟩; unfold two_ cmp_ shf_ shl_; grind)
        by_cases h34_12 : n = (12 : Int32)
        · refine y_tsw (t := 207) rfl rfl (by rw [h34_12]; rfl) ?_
          refine y_st rfl rfl rfl rfl rfl (fun _ _ => rfl) ?_
          refine y_st rfl rfl rfl rfl rfl (fun _ _ => rfl) ?_
          refine y_st rfl rfl rfl rfl rfl (fun _ _ => rfl) ?_
          show yP (xg xs) (d + 1) 363 210 [(4, .int (1 : Int32)), (3, .int (0 : Int32)), (0, .int n), (1, .int x), (2, .int y)] [.int (x ^^^ y)] m _
          exact y_iret rfl rfl rfl (by refine ⟨congrArg (fun z => some (Value.int z)) ?_, rfl⟩; unfold two_ cmp_ shf_ shl_; grind)
        by_cases h34_13 : n = (13 : Int32)
        · refine y_tsw (t := 211) rfl rfl (by rw [h34_13]; rfl) ?_
          refine y_st rfl rfl rfl rfl rfl (fun _ _ => rfl) ?_
          refine y_st rfl rfl rfl rfl rfl (fun _ _ => rfl) ?_
          show yP (xg xs) (d + 1) 363 213 [(4, .int (1 : Int32)), (3, .int (0 : Int32)), (0, .int n), (1, .int x), (2, .int y)] [.int y, .int x] m _
          refine y_ine (t := 220) rfl rfl rfl (fun h213 => ?_) (fun h213 => ?_)
          · refine y_st rfl rfl rfl rfl rfl (fun _ _ => rfl) ?_
            show yP (xg xs) (d + 1) 363 221 [(4, .int (1 : Int32)), (3, .int (0 : Int32)), (0, .int n), (1, .int x), (2, .int y)] [.int (0 : Int32)] m _
            exact y_iret rfl rfl rfl (by refine ⟨congrArg (fun z => some (Value.int z)) ?_, rfl⟩; unfold two_ cmp_ shf_ shl_; grind)
          · refine y_st rfl rfl rfl rfl rfl (fun _ _ => rfl) ?_
            refine y_st rfl rfl rfl rfl rfl (fun _ _ => rfl) ?_
            show yP (xg xs) (d + 1) 363 221 [(4, .int (1 : Int32)), (3, .int (0 : Int32)), (0, .int n), (1, .int x), (2, .int y)] [.int (1 : Int32)] m _
            exact y_iret rfl rfl rfl (by refine ⟨congrArg (fun z => some (Value.int z)) ?_, rfl⟩; unfold two_ cmp_ shf_ shl_; grind)
        by_cases h34_14 : n = (14 : Int32)
        · refine y_tsw (t := 222) rfl rfl (by rw [h34_14]; rfl) ?_
          refine y_st rfl rfl rfl rfl rfl (fun _ _ => rfl) ?_
          refine y_st rfl rfl rfl rfl rfl (fun _ _ => rfl) ?_
          show yP (xg xs) (d + 1) 363 224 [(4, .int (1 : Int32)), (3, .int (0 : Int32)), (0, .int n), (1, .int x), (2, .int y)] [.int y, .int x] m _
          refine y_ieq (t := 231) rfl rfl rfl (fun h224 => ?_) (fun h224 => ?_)
          · refine y_st rfl rfl rfl rfl rfl (fun _ _ => rfl) ?_
            show yP (xg xs) (d + 1) 363 232 [(4, .int (1 : Int32)), (3, .int (0 : Int32)), (0, .int n), (1, .int x), (2, .int y)] [.int (0 : Int32)] m _
            exact y_iret rfl rfl rfl (by refine ⟨congrArg (fun z => some (Value.int z)) ?_, rfl⟩; unfold two_ cmp_ shf_ shl_; grind)
          · refine y_st rfl rfl rfl rfl rfl (fun _ _ => rfl) ?_
            refine y_st rfl rfl rfl rfl rfl (fun _ _ => rfl) ?_
            show yP (xg xs) (d + 1) 363 232 [(4, .int (1 : Int32)), (3, .int (0 : Int32)), (0, .int n), (1, .int x), (2, .int y)] [.int (1 : Int32)] m _
            exact y_iret rfl rfl rfl (by refine ⟨congrArg (fun z => some (Value.int z)) ?_, rfl⟩; unfold two_ cmp_ shf_ shl_; grind)
        by_cases h34_15 : n = (15 : Int32)
        · refine y_tsw (t := 233) rfl rfl (by rw [h34_15]; rfl) ?_
          refine y_st rfl rfl rfl rfl rfl (fun _ _ => rfl) ?_
          refine y_st rfl rfl rfl rfl rfl (fun _ _ => rfl) ?_
          show yP (xg xs) (d + 1) 363 235 [(4, .int (1 : Int32)), (3, .int (0 : Int32)), (0, .int n), (1, .int x), (2, .int y)] [.int y, .int x] m _
          refine y_ige (t := 242) rfl rfl rfl (fun h235 => ?_) (fun h235 => ?_)
          · refine y_st rfl rfl rfl rfl rfl (fun _ _ => rfl) ?_
            show yP (xg xs) (d + 1) 363 243 [(4, .int (1 : Int32)), (3, .int (0 : Int32)), (0, .int n), (1, .int x), (2, .int y)] [.int (0 : Int32)] m _
            exact y_iret rfl rfl rfl (by refine ⟨congrArg (fun z => some (Value.int z)) ?_, rfl⟩; unfold two_ cmp_ shf_ shl_; grind)
          · refine y_st rfl rfl rfl rfl rfl (fun _ _ => rfl) ?_
            refine y_st rfl rfl rfl rfl rfl (fun _ _ => rfl) ?_
            show yP (xg xs) (d + 1) 363 243 [(4, .int (1 : Int32)), (3, .int (0 : Int32)), (0, .int n), (1, .int x), (2, .int y)] [.int (1 : Int32)] m _
            exact y_iret rfl rfl rfl (by refine ⟨congrArg (fun z => some (Value.int z)) ?_, rfl⟩; unfold two_ cmp_ shf_ shl_; grind)
        by_cases h34_16 : n = (16 : Int32)
        · refine y_tsw (t := 244) rfl rfl (by rw [h34_16]; rfl) ?_
          refine y_st rfl rfl rfl rfl rfl (fun _ _ => rfl) ?_
          refine y_st rfl rfl rfl rfl rfl (fun _ _ => rfl) ?_
          show yP (xg xs) (d + 1) 363 246 [(4, .int (1 : Int32)), (3, .int (0 : Int32)), (0, .int n), (1, .int x), (2, .int y)] [.int y, .int x] m _
          refine y_ile (t := 253) rfl rfl rfl (fun h246 => ?_) (fun h246 => ?_)
          · refine y_st rfl rfl rfl rfl rfl (fun _ _ => rfl) ?_
            show yP (xg xs) (d + 1) 363 254 [(4, .int (1 : Int32)), (3, .int (0 : Int32)), (0, .int n), (1, .int x), (2, .int y)] [.int (0 : Int32)] m _
            exact y_iret rfl rfl rfl (by refine ⟨congrArg (fun z => some (Value.int z)) ?_, rfl⟩; unfold two_ cmp_ shf_ shl_; grind)
          · refine y_st rfl rfl rfl rfl rfl (fun _ _ => rfl) ?_
            refine y_st rfl rfl rfl rfl rfl (fun _ _ => rfl) ?_
            show yP (xg xs) (d + 1) 363 254 [(4, .int (1 : Int32)), (3, .int (0 : Int32)), (0, .int n), (1, .int x), (2, .int y)] [.int (1 : Int32)] m _
            exact y_iret rfl rfl rfl (by refine ⟨congrArg (fun z => some (Value.int z)) ?_, rfl⟩; unfold two_ cmp_ shf_ shl_; grind)
        by_cases h34_17 : n = (17 : Int32)
        · refine y_tsw (t := 255) rfl rfl (by rw [h34_17]; rfl) ?_
          refine y_st rfl rfl rfl rfl rfl (fun _ _ => rfl) ?_
          refine y_st rfl rfl rfl rfl rfl (fun _ _ => rfl) ?_
          show yP (xg xs) (d + 1) 363 257 [(4, .int (1 : Int32)), (3, .int (0 : Int32)), (0, .int n), (1, .int x), (2, .int y)] [.int y, .int x] m _
          refine y_igt (t := 264) rfl rfl rfl (fun h257 => ?_) (fun h257 => ?_)
          · refine y_st rfl rfl rfl rfl rfl (fun _ _ => rfl) ?_
            show yP (xg xs) (d + 1) 363 265 [(4, .int (1 : Int32)), (3, .int (0 : Int32)), (0, .int n), (1, .int x), (2, .int y)] [.int (0 : Int32)] m _
            exact y_iret rfl rfl rfl (by refine ⟨congrArg (fun z => some (Value.int z)) ?_, rfl⟩; unfold two_ cmp_ shf_ shl_; grind)
          · refine y_st rfl rfl rfl rfl rfl (fun _ _ => rfl) ?_
            refine y_st rfl rfl rfl rfl rfl (fun _ _ => rfl) ?_
            show yP (xg xs) (d + 1) 363 265 [(4, .int (1 : Int32)), (3, .int (0 : Int32)), (0, .int n), (1, .int x), (2, .int y)] [.int (1 : Int32)] m _
            exact y_iret rfl rfl rfl (by refine ⟨congrArg (fun z => some (Value.int z)) ?_, rfl⟩; unfold two_ cmp_ shf_ shl_; grind)
        by_cases h34_18 : n = (18 : Int32)
        · refine y_tsw (t := 266) rfl rfl (by rw [h34_18]; rfl) ?_
          refine y_st rfl rfl rfl rfl rfl (fun _ _ => rfl) ?_
          refine y_st rfl rfl rfl rfl rfl (fun _ _ => rfl) ?_
          show yP (xg xs) (d + 1) 363 268 [(4, .int (1 : Int32)), (3, .int (0 : Int32)), (0, .int n), (1, .int x), (2, .int y)] [.int y, .int x] m _
          refine y_ilt (t := 275) rfl rfl rfl (fun h268 => ?_) (fun h268 => ?_)
          · refine y_st rfl rfl rfl rfl rfl (fun _ _ => rfl) ?_
            show yP (xg xs) (d + 1) 363 276 [(4, .int (1 : Int32)), (3, .int (0 : Int32)), (0, .int n), (1, .int x), (2, .int y)] [.int (0 : Int32)] m _
            exact y_iret rfl rfl rfl (by refine ⟨congrArg (fun z => some (Value.int z)) ?_, rfl⟩; unfold two_ cmp_ shf_ shl_; grind)
          · refine y_st rfl rfl rfl rfl rfl (fun _ _ => rfl) ?_
            refine y_st rfl rfl rfl rfl rfl (fun _ _ => rfl) ?_
            show yP (xg xs) (d + 1) 363 276 [(4, .int (1 : Int32)), (3, .int (0 : Int32)), (0, .int n), (1, .int x), (2, .int y)] [.int (1 : Int32)] m _
            exact y_iret rfl rfl rfl (by refine ⟨congrArg (fun z => some (Value.int z)) ?_, rfl⟩; unfold two_ cmp_ shf_ shl_; grind)
        by_cases h34_19 : n = (19 : Int32)
        · refine y_tsw (t := 277) rfl rfl (by rw [h34_19]; rfl) ?_
          refine y_st rfl rfl rfl rfl rfl (fun _ _ => rfl) ?_
          show yP (xg xs) (d + 1) 363 278 [(4, .int (1 : Int32)), (3, .int (0 : Int32)), (0, .int n), (1, .int x), (2, .int y)] [.int (0 : Int32)] m _
          refine y_zeq (t := 290) rfl rfl rfl (fun h278 => ?_) (fun h278 => ?_)
          · refine y_st rfl rfl rfl rfl rfl (fun _ _ => rfl) ?_
            show yP (xg xs) (d + 1) 363 291 [(4, .int (1 : Int32)), (3, .int (0 : Int32)), (0, .int n), (1, .int x), (2, .int y)] [.int (0 : Int32)] m _
            exact y_iret rfl rfl rfl (by refine ⟨congrArg (fun z => some (Value.int z)) ?_, rfl⟩; unfold two_ cmp_ shf_ shl_; grind)
          · exact absurd h278 (by decide)
        by_cases h34_20 : n = (20 : Int32)
        · refine y_tsw (t := 292) rfl rfl (by rw [h34_20]; rfl) ?_
          refine y_st rfl rfl rfl rfl rfl (fun _ _ => rfl) ?_
          show yP (xg xs) (d + 1) 363 293 [(4, .int (1 : Int32)), (3, .int (0 : Int32)), (0, .int n), (1, .int x), (2, .int y)] [.int (0 : Int32)] m _
          refine y_zeq (t := 309) rfl rfl rfl (fun h293 => ?_) (fun h293 => ?_)
          · refine y_st rfl rfl rfl rfl rfl (fun _ _ => rfl) ?_
            show yP (xg xs) (d + 1) 363 310 [(4, .int (1 : Int32)), (3, .int (0 : Int32)), (0, .int n), (1, .int x), (2, .int y)] [.int (0 : Int32)] m _
            exact y_iret rfl rfl rfl (by refine ⟨congrArg (fun z => some (Value.int z)) ?_, rfl⟩; unfold two_ cmp_ shf_ shl_; grind)
          · exact absurd h293 (by decide)
        by_cases h34_21 : n = (21 : Int32)
        · refine y_tsw (t := 311) rfl rfl (by rw [h34_21]; rfl) ?_
          refine y_st rfl rfl rfl rfl rfl (fun _ _ => rfl) ?_
          show yP (xg xs) (d + 1) 363 313 [(4, .int (1 : Int32)), (3, .int (0 : Int32)), (0, .int n), (1, .int x), (2, .int y)] [.int (1 : Int32)] m _
          refine y_zeq (t := 322) rfl rfl rfl (fun h313 => ?_) (fun h313 => ?_)
          · exact absurd h313 (by decide)
          · refine y_st rfl rfl rfl rfl rfl (fun _ _ => rfl) ?_
            refine y_st rfl rfl rfl rfl rfl (fun _ _ => rfl) ?_
            refine y_st rfl rfl rfl rfl rfl (fun _ _ => rfl) ?_
            refine y_st rfl rfl rfl rfl rfl (fun _ _ => rfl) ?_
            show yP (xg xs) (d + 1) 363 323 [(4, .int (1 : Int32)), (3, .int (0 : Int32)), (0, .int n), (1, .int x), (2, .int y)] [.int (x <<< (y &&& 31))] m _
            exact y_iret rfl rfl rfl (by refine ⟨congrArg (fun z => some (Value.int z)) ?_, rfl⟩; unfold two_ cmp_ shf_ shl_; grind)
        by_cases h34_22 : n = (22 : Int32)
        · refine y_tsw (t := 324) rfl rfl (by rw [h34_22]; rfl) ?_
          refine y_st rfl rfl rfl rfl rfl (fun _ _ => rfl) ?_
          show yP (xg xs) (d + 1) 363 326 [(4, .int (1 : Int32)), (3, .int (0 : Int32)), (0, .int n), (1, .int x), (2, .int y)] [.int (1 : Int32)] m _
          refine y_zeq (t := 335) rfl rfl rfl (fun h326 => ?_) (fun h326 => ?_)
          · exact absurd h326 (by decide)
          · refine y_st rfl rfl rfl rfl rfl (fun _ _ => rfl) ?_
            refine y_st rfl rfl rfl rfl rfl (fun _ _ => rfl) ?_
            refine y_st rfl rfl rfl rfl rfl (fun _ _ => rfl) ?_
            refine y_st rfl rfl rfl rfl rfl (fun _ _ => rfl) ?_
            show yP (xg xs) (d + 1) 363 336 [(4, .int (1 : Int32)), (3, .int (0 : Int32)), (0, .int n), (1, .int x), (2, .int y)] [.int ((x.toUInt32 >>> (y.toUInt32 &&& Int32.toUInt32 31)).toInt32)] m _
            exact y_iret rfl rfl rfl (by refine ⟨congrArg (fun z => some (Value.int z)) ?_, rfl⟩; unfold two_ cmp_ shf_ shl_; grind)
        by_cases h34_23 : n = (23 : Int32)
        · refine y_tsw (t := 337) rfl rfl (by rw [h34_23]; rfl) ?_
          refine y_st rfl rfl rfl rfl rfl (fun _ _ => rfl) ?_
          refine y_st rfl rfl rfl rfl rfl (fun _ _ => rfl) ?_
          show yP (xg xs) (d + 1) 363 339 [(4, .int (1 : Int32)), (3, .int (0 : Int32)), (0, .int n), (1, .int x), (2, .int y)] [.int y, .int x] m _
          refine y_ige (t := 346) rfl rfl rfl (fun h339 => ?_) (fun h339 => ?_)
          · refine y_st rfl rfl rfl rfl rfl (fun _ _ => rfl) ?_
            show yP (xg xs) (d + 1) 363 347 [(4, .int (1 : Int32)), (3, .int (0 : Int32)), (0, .int n), (1, .int x), (2, .int y)] [.int y] m _
            exact y_iret rfl rfl rfl (by refine ⟨congrArg (fun z => some (Value.int z)) ?_, rfl⟩; unfold two_ cmp_ shf_ shl_; grind)
          · refine y_st rfl rfl rfl rfl rfl (fun _ _ => rfl) ?_
            refine y_st rfl rfl rfl rfl rfl (fun _ _ => rfl) ?_
            show yP (xg xs) (d + 1) 363 347 [(4, .int (1 : Int32)), (3, .int (0 : Int32)), (0, .int n), (1, .int x), (2, .int y)] [.int x] m _
            exact y_iret rfl rfl rfl (by refine ⟨congrArg (fun z => some (Value.int z)) ?_, rfl⟩; unfold two_ cmp_ shf_ shl_; grind)
        refine y_tsw (t := 348) rfl rfl ((if_pos (by have g0 := ne_lit (0 : Int32) 0 rfl h34_0; have g1 := ne_lit (1 : Int32) 1 rfl h34_1; have g2 := ne_lit (2 : Int32) 2 rfl h34_2; have g3 := ne_lit (3 : Int32) 3 rfl h34_3; have g4 := ne_lit (4 : Int32) 4 rfl h34_4; have g5 := ne_lit (5 : Int32) 5 rfl h34_5; have g6 := ne_lit (6 : Int32) 6 rfl h34_6; have g7 := ne_lit (7 : Int32) 7 rfl h34_7; have g8 := ne_lit (8 : Int32) 8 rfl h34_8; have g9 := ne_lit (9 : Int32) 9 rfl h34_9; have g10 := ne_lit (10 : Int32) 10 rfl h34_10; have g11 := ne_lit (11 : Int32) 11 rfl h34_11; have g12 := ne_lit (12 : Int32) 12 rfl h34_12; have g13 := ne_lit (13 : Int32) 13 rfl h34_13; have g14 := ne_lit (14 : Int32) 14 rfl h34_14; have g15 := ne_lit (15 : Int32) 15 rfl h34_15; have g16 := ne_lit (16 : Int32) 16 rfl h34_16; have g17 := ne_lit (17 : Int32) 17 rfl h34_17; have g18 := ne_lit (18 : Int32) 18 rfl h34_18; have g19 := ne_lit (19 : Int32) 19 rfl h34_19; have g20 := ne_lit (20 : Int32) 20 rfl h34_20; have g21 := ne_lit (21 : Int32) 21 rfl h34_21; have g22 := ne_lit (22 : Int32) 22 rfl h34_22; have g23 := ne_lit (23 : Int32) 23 rfl h34_23; omega)).trans rfl) ?_
        refine y_st rfl rfl rfl rfl rfl (fun _ _ => rfl) ?_
        refine y_st rfl rfl rfl rfl rfl (fun _ _ => rfl) ?_
        show yP (xg xs) (d + 1) 363 350 [(4, .int (1 : Int32)), (3, .int (0 : Int32)), (0, .int n), (1, .int x), (2, .int y)] [.int y, .int x] m _
        refine y_ile (t := 357) rfl rfl rfl (fun h350 => ?_) (fun h350 => ?_)
        · refine y_st rfl rfl rfl rfl rfl (fun _ _ => rfl) ?_
          show yP (xg xs) (d + 1) 363 358 [(4, .int (1 : Int32)), (3, .int (0 : Int32)), (0, .int n), (1, .int x), (2, .int y)] [.int y] m _
          exact y_iret rfl rfl rfl (by refine ⟨congrArg (fun z => some (Value.int z)) ?_, rfl⟩; unfold two_ cmp_ shf_ shl_; grind)
        · refine y_st rfl rfl rfl rfl rfl (fun _ _ => rfl) ?_
          refine y_st rfl rfl rfl rfl rfl (fun _ _ => rfl) ?_
          show yP (xg xs) (d + 1) 363 358 [(4, .int (1 : Int32)), (3, .int (0 : Int32)), (0, .int n), (1, .int x), (2, .int y)] [.int x] m _
          exact y_iret rfl rfl rfl (by refine ⟨congrArg (fun z => some (Value.int z)) ?_, rfl⟩; unfold two_ cmp_ shf_ shl_; grind)
  · refine y_st rfl rfl rfl rfl rfl (fun _ _ => rfl) ?_
    refine y_st rfl rfl rfl rfl rfl (fun _ _ => rfl) ?_
    show yP (xg xs) (d + 1) 363 7 [(0, .int n), (1, .int x), (2, .int y)] [.int (16 : Int32), .int y] m _
    refine y_ige (t := 14) rfl rfl rfl (fun h7 => ?_) (fun h7 => ?_)
    · refine y_st rfl rfl rfl rfl rfl (fun _ _ => rfl) ?_
      refine y_st rfl rfl rfl rfl rfl (fun _ _ => rfl) ?_
      refine y_st rfl rfl rfl rfl rfl (fun _ _ => rfl) ?_
      show yP (xg xs) (d + 1) 363 17 [(3, .int (0 : Int32)), (0, .int n), (1, .int x), (2, .int y)] [.int y] m _
      refine y_zlt (t := 30) rfl rfl rfl (fun h17 => ?_) (fun h17 => ?_)
      · refine y_st rfl rfl rfl rfl rfl (fun _ _ => rfl) ?_
        refine y_st rfl rfl rfl rfl rfl (fun _ _ => rfl) ?_
        refine y_st rfl rfl rfl rfl rfl (fun _ _ => rfl) ?_
        show yP (xg xs) (d + 1) 363 34 [(4, .int (0 : Int32)), (3, .int (0 : Int32)), (0, .int n), (1, .int x), (2, .int y)] [.int n] m _
        by_cases h34_0 : n = (0 : Int32)
        · refine y_tsw (t := 144) rfl rfl (by rw [h34_0]; rfl) ?_
          refine y_st rfl rfl rfl rfl rfl (fun _ _ => rfl) ?_
          refine y_st rfl rfl rfl rfl rfl (fun _ _ => rfl) ?_
          refine y_st rfl rfl rfl rfl rfl (fun _ _ => rfl) ?_
          show yP (xg xs) (d + 1) 363 147 [(4, .int (0 : Int32)), (3, .int (0 : Int32)), (0, .int n), (1, .int x), (2, .int y)] [.int (x + y)] m _
          refine y_call rfl rfl rfl rfl rfl (Nat.le_of_ble_eq_true rfl) (Nat.le_of_ble_eq_true rfl) rfl (by decide) (c362 xs d m (x + y)) (fun v16 m16 q16 => ?_)
          obtain ⟨rfl, e16⟩ := q16; rw [e16]; clear e16
          show yP (xg xs) (d + 1) 363 150 [(4, .int (0 : Int32)), (3, .int (0 : Int32)), (0, .int n), (1, .int x), (2, .int y)] [.int (w16 (x + y))] m _
          exact y_iret rfl rfl rfl (by refine ⟨congrArg (fun z => some (Value.int z)) ?_, rfl⟩; unfold two_ cmp_ shf_ shl_; grind)
        by_cases h34_1 : n = (1 : Int32)
        · refine y_tsw (t := 151) rfl rfl (by rw [h34_1]; rfl) ?_
          refine y_st rfl rfl rfl rfl rfl (fun _ _ => rfl) ?_
          refine y_st rfl rfl rfl rfl rfl (fun _ _ => rfl) ?_
          refine y_st rfl rfl rfl rfl rfl (fun _ _ => rfl) ?_
          show yP (xg xs) (d + 1) 363 154 [(4, .int (0 : Int32)), (3, .int (0 : Int32)), (0, .int n), (1, .int x), (2, .int y)] [.int (x - y)] m _
          refine y_call rfl rfl rfl rfl rfl (Nat.le_of_ble_eq_true rfl) (Nat.le_of_ble_eq_true rfl) rfl (by decide) (c362 xs d m (x - y)) (fun v17 m17 q17 => ?_)
          obtain ⟨rfl, e17⟩ := q17; rw [e17]; clear e17
          show yP (xg xs) (d + 1) 363 157 [(4, .int (0 : Int32)), (3, .int (0 : Int32)), (0, .int n), (1, .int x), (2, .int y)] [.int (w16 (x - y))] m _
          exact y_iret rfl rfl rfl (by refine ⟨congrArg (fun z => some (Value.int z)) ?_, rfl⟩; unfold two_ cmp_ shf_ shl_; grind)
        by_cases h34_2 : n = (2 : Int32)
        · refine y_tsw (t := 158) rfl rfl (by rw [h34_2]; rfl) ?_
          refine y_st rfl rfl rfl rfl rfl (fun _ _ => rfl) ?_
          refine y_st rfl rfl rfl rfl rfl (fun _ _ => rfl) ?_
          refine y_st rfl rfl rfl rfl rfl (fun _ _ => rfl) ?_
          show yP (xg xs) (d + 1) 363 161 [(4, .int (0 : Int32)), (3, .int (0 : Int32)), (0, .int n), (1, .int x), (2, .int y)] [.int (x * y)] m _
          refine y_call rfl rfl rfl rfl rfl (Nat.le_of_ble_eq_true rfl) (Nat.le_of_ble_eq_true rfl) rfl (by decide) (c362 xs d m (x * y)) (fun v18 m18 q18 => ?_)
          obtain ⟨rfl, e18⟩ := q18; rw [e18]; clear e18
          show yP (xg xs) (d + 1) 363 164 [(4, .int (0 : Int32)), (3, .int (0 : Int32)), (0, .int n), (1, .int x), (2, .int y)] [.int (w16 (x * y))] m _
          exact y_iret rfl rfl rfl (by refine ⟨congrArg (fun z => some (Value.int z)) ?_, rfl⟩; unfold two_ cmp_ shf_ shl_; grind)
        by_cases h34_3 : n = (3 : Int32)
        · refine y_tsw (t := 165) rfl rfl (by rw [h34_3]; rfl) ?_
          refine y_st rfl rfl rfl rfl rfl (fun _ _ => rfl) ?_
          refine y_st rfl rfl rfl rfl rfl (fun _ _ => rfl) ?_
          show yP (xg xs) (d + 1) 363 167 [(4, .int (0 : Int32)), (3, .int (0 : Int32)), (0, .int n), (1, .int x), (2, .int y)] [.int y, .int x] m _
          refine y_idiv rfl rfl (by grind) ?_
          show yP (xg xs) (d + 1) 363 168 [(4, .int (0 : Int32)), (3, .int (0 : Int32)), (0, .int n), (1, .int x), (2, .int y)] [.int (x / y)] m _
          refine y_call rfl rfl rfl rfl rfl (Nat.le_of_ble_eq_true rfl) (Nat.le_of_ble_eq_true rfl) rfl (by decide) (c362 xs d m (x / y)) (fun v19 m19 q19 => ?_)
          obtain ⟨rfl, e19⟩ := q19; rw [e19]; clear e19
          show yP (xg xs) (d + 1) 363 171 [(4, .int (0 : Int32)), (3, .int (0 : Int32)), (0, .int n), (1, .int x), (2, .int y)] [.int (w16 (x / y))] m _
          exact y_iret rfl rfl rfl (by refine ⟨congrArg (fun z => some (Value.int z)) ?_, rfl⟩; unfold two_ cmp_ shf_ shl_; grind)
        by_cases h34_4 : n = (4 : Int32)
        · refine y_tsw (t := 172) rfl rfl (by rw [h34_4]; rfl) ?_
          refine y_st rfl rfl rfl rfl rfl (fun _ _ => rfl) ?_
          refine y_st rfl rfl rfl rfl rfl (fun _ _ => rfl) ?_
          show yP (xg xs) (d + 1) 363 174 [(4, .int (0 : Int32)), (3, .int (0 : Int32)), (0, .int n), (1, .int x), (2, .int y)] [.int y, .int x] m _
          refine y_irem rfl rfl (by grind) ?_
          show yP (xg xs) (d + 1) 363 175 [(4, .int (0 : Int32)), (3, .int (0 : Int32)), (0, .int n), (1, .int x), (2, .int y)] [.int (x - x / y * y)] m _
          refine y_call rfl rfl rfl rfl rfl (Nat.le_of_ble_eq_true rfl) (Nat.le_of_ble_eq_true rfl) rfl (by decide) (c362 xs d m (x - x / y * y)) (fun v20 m20 q20 => ?_)
          obtain ⟨rfl, e20⟩ := q20; rw [e20]; clear e20
          show yP (xg xs) (d + 1) 363 178 [(4, .int (0 : Int32)), (3, .int (0 : Int32)), (0, .int n), (1, .int x), (2, .int y)] [.int (w16 (x - x / y * y))] m _
          exact y_iret rfl rfl rfl (by refine ⟨congrArg (fun z => some (Value.int z)) ?_, rfl⟩; unfold two_ cmp_ shf_ shl_; grind)
        by_cases h34_5 : n = (5 : Int32)
        · refine y_tsw (t := 179) rfl rfl (by rw [h34_5]; rfl) ?_
          refine y_st rfl rfl rfl rfl rfl (fun _ _ => rfl) ?_
          refine y_st rfl rfl rfl rfl rfl (fun _ _ => rfl) ?_
          refine y_st rfl rfl rfl rfl rfl (fun _ _ => rfl) ?_
          show yP (xg xs) (d + 1) 363 182 [(4, .int (0 : Int32)), (3, .int (0 : Int32)), (0, .int n), (1, .int x), (2, .int y)] [.int (x + y)] m _
          exact y_iret rfl rfl rfl (by refine ⟨congrArg (fun z => some (Value.int z)) ?_, rfl⟩; unfold two_ cmp_ shf_ shl_; grind)
        by_cases h34_6 : n = (6 : Int32)
        · refine y_tsw (t := 183) rfl rfl (by rw [h34_6]; rfl) ?_
          refine y_st rfl rfl rfl rfl rfl (fun _ _ => rfl) ?_
          refine y_st rfl rfl rfl rfl rfl (fun _ _ => rfl) ?_
          refine y_st rfl rfl rfl rfl rfl (fun _ _ => rfl) ?_
          show yP (xg xs) (d + 1) 363 186 [(4, .int (0 : Int32)), (3, .int (0 : Int32)), (0, .int n), (1, .int x), (2, .int y)] [.int (x - y)] m _
          exact y_iret rfl rfl rfl (by refine ⟨congrArg (fun z => some (Value.int z)) ?_, rfl⟩; unfold two_ cmp_ shf_ shl_; grind)
        by_cases h34_7 : n = (7 : Int32)
        · refine y_tsw (t := 187) rfl rfl (by rw [h34_7]; rfl) ?_
          refine y_st rfl rfl rfl rfl rfl (fun _ _ => rfl) ?_
          refine y_st rfl rfl rfl rfl rfl (fun _ _ => rfl) ?_
          refine y_st rfl rfl rfl rfl rfl (fun _ _ => rfl) ?_
          show yP (xg xs) (d + 1) 363 190 [(4, .int (0 : Int32)), (3, .int (0 : Int32)), (0, .int n), (1, .int x), (2, .int y)] [.int (x * y)] m _
          exact y_iret rfl rfl rfl (by refine ⟨congrArg (fun z => some (Value.int z)) ?_, rfl⟩; unfold two_ cmp_ shf_ shl_; grind)
        by_cases h34_8 : n = (8 : Int32)
        · refine y_tsw (t := 191) rfl rfl (by rw [h34_8]; rfl) ?_
          refine y_st rfl rfl rfl rfl rfl (fun _ _ => rfl) ?_
          refine y_st rfl rfl rfl rfl rfl (fun _ _ => rfl) ?_
          show yP (xg xs) (d + 1) 363 193 [(4, .int (0 : Int32)), (3, .int (0 : Int32)), (0, .int n), (1, .int x), (2, .int y)] [.int y, .int x] m _
          refine y_idiv rfl rfl (by grind) ?_
          show yP (xg xs) (d + 1) 363 194 [(4, .int (0 : Int32)), (3, .int (0 : Int32)), (0, .int n), (1, .int x), (2, .int y)] [.int (x / y)] m _
          exact y_iret rfl rfl rfl (by refine ⟨congrArg (fun z => some (Value.int z)) ?_, rfl⟩; unfold two_ cmp_ shf_ shl_; grind)
        by_cases h34_9 : n = (9 : Int32)
        · refine y_tsw (t := 195) rfl rfl (by rw [h34_9]; rfl) ?_
          refine y_st rfl rfl rfl rfl rfl (fun _ _ => rfl) ?_
          refine y_st rfl rfl rfl rfl rfl (fun _ _ => rfl) ?_
          show yP (xg xs) (d + 1) 363 197 [(4, .int (0 : Int32)), (3, .int (0 : Int32)), (0, .int n), (1, .int x), (2, .int y)] [.int y, .int x] m _
          refine y_irem rfl rfl (by grind) ?_
          show yP (xg xs) (d + 1) 363 198 [(4, .int (0 : Int32)), (3, .int (0 : Int32)), (0, .int n), (1, .int x), (2, .int y)] [.int (x - x / y * y)] m _
          exact y_iret rfl rfl rfl (by refine ⟨congrArg (fun z => some (Value.int z)) ?_, rfl⟩; unfold two_ cmp_ shf_ shl_; grind)
        by_cases h34_10 : n = (10 : Int32)
        · refine y_tsw (t := 199) rfl rfl (by rw [h34_10]; rfl) ?_
          refine y_st rfl rfl rfl rfl rfl (fun _ _ => rfl) ?_
          refine y_st rfl rfl rfl rfl rfl (fun _ _ => rfl) ?_
          refine y_st rfl rfl rfl rfl rfl (fun _ _ => rfl) ?_
          show yP (xg xs) (d + 1) 363 202 [(4, .int (0 : Int32)), (3, .int (0 : Int32)), (0, .int n), (1, .int x), (2, .int y)] [.int (x &&& y)] m _
          exact y_iret rfl rfl rfl (by refine ⟨congrArg (fun z => some (Value.int z)) ?_, rfl⟩; unfold two_ cmp_ shf_ shl_; grind)
        by_cases h34_11 : n = (11 : Int32)
        · refine y_tsw (t := 203) rfl rfl (by rw [h34_11]; rfl) ?_
          refine y_st rfl rfl rfl rfl rfl (fun _ _ => rfl) ?_
          refine y_st rfl rfl rfl rfl rfl (fun _ _ => rfl) ?_
          refine y_st rfl rfl rfl rfl rfl (fun _ _ => rfl) ?_
          show yP (xg xs) (d + 1) 363 206 [(4, .int (0 : Int32)), (3, .int (0 : Int32)), (0, .int n), (1, .int x), (2, .int y)] [.int (x ||| y)] m _
          exact y_iret rfl rfl rfl (by refine ⟨congrArg (fun z => some (Value.int z)) ?_, rfl⟩; unfold two_ cmp_ shf_ shl_; grind)
        by_cases h34_12 : n = (12 : Int32)
        · refine y_tsw (t := 207) rfl rfl (by rw [h34_12]; rfl) ?_
          refine y_st rfl rfl rfl rfl rfl (fun _ _ => rfl) ?_
          refine y_st rfl rfl rfl rfl rfl (fun _ _ => rfl) ?_
          refine y_st rfl rfl rfl rfl rfl (fun _ _ => rfl) ?_
          show yP (xg xs) (d + 1) 363 210 [(4, .int (0 : Int32)), (3, .int (0 : Int32)), (0, .int n), (1, .int x), (2, .int y)] [.int (x ^^^ y)] m _
          exact y_iret rfl rfl rfl (by refine ⟨congrArg (fun z => some (Value.int z)) ?_, rfl⟩; unfold two_ cmp_ shf_ shl_; grind)
        by_cases h34_13 : n = (13 : Int32)
        · refine y_tsw (t := 211) rfl rfl (by rw [h34_13]; rfl) ?_
          refine y_st rfl rfl rfl rfl rfl (fun _ _ => rfl) ?_
          refine y_st rfl rfl rfl rfl rfl (fun _ _ => rfl) ?_
          show yP (xg xs) (d + 1) 363 213 [(4, .int (0 : Int32)), (3, .int (0 : Int32)), (0, .int n), (1, .int x), (2, .int y)] [.int y, .int x] m _
          refine y_ine (t := 220) rfl rfl rfl (fun h213 => ?_) (fun h213 => ?_)
          · refine y_st rfl rfl rfl rfl rfl (fun _ _ => rfl) ?_
            show yP (xg xs) (d + 1) 363 221 [(4, .int (0 : Int32)), (3, .int (0 : Int32)), (0, .int n), (1, .int x), (2, .int y)] [.int (0 : Int32)] m _
            exact y_iret rfl rfl rfl (by refine ⟨congrArg (fun z => some (Value.int z)) ?_, rfl⟩; unfold two_ cmp_ shf_ shl_; grind)
          · refine y_st rfl rfl rfl rfl rfl (fun _ _ => rfl) ?_
            refine y_st rfl rfl rfl rfl rfl (fun _ _ => rfl) ?_
            show yP (xg xs) (d + 1) 363 221 [(4, .int (0 : Int32)), (3, .int (0 : Int32)), (0, .int n), (1, .int x), (2, .int y)] [.int (1 : Int32)] m _
            exact y_iret rfl rfl rfl (by refine ⟨congrArg (fun z => some (Value.int z)) ?_, rfl⟩; unfold two_ cmp_ shf_ shl_; grind)
        by_cases h34_14 : n = (14 : Int32)
        · refine y_tsw (t := 222) rfl rfl (by rw [h34_14]; rfl) ?_
          refine y_st rfl rfl rfl rfl rfl (fun _ _ => rfl) ?_
          refine y_st rfl rfl rfl rfl rfl (fun _ _ => rfl) ?_
          show yP (xg xs) (d + 1) 363 224 [(4, .int (0 : Int32)), (3, .int (0 : Int32)), (0, .int n), (1, .int x), (2, .int y)] [.int y, .int x] m _
          refine y_ieq (t := 231) rfl rfl rfl (fun h224 => ?_) (fun h224 => ?_)
          · refine y_st rfl rfl rfl rfl rfl (fun _ _ => rfl) ?_
            show yP (xg xs) (d + 1) 363 232 [(4, .int (0 : Int32)), (3, .int (0 : Int32)), (0, .int n), (1, .int x), (2, .int y)] [.int (0 : Int32)] m _
            exact y_iret rfl rfl rfl (by refine ⟨congrArg (fun z => some (Value.int z)) ?_, rfl⟩; unfold two_ cmp_ shf_ shl_; grind)
          · refine y_st rfl rfl rfl rfl rfl (fun _ _ => rfl) ?_
            refine y_st rfl rfl rfl rfl rfl (fun _ _ => rfl) ?_
            show yP (xg xs) (d + 1) 363 232 [(4, .int (0 : Int32)), (3, .int (0 : Int32)), (0, .int n), (1, .int x), (2, .int y)] [.int (1 : Int32)] m _
            exact y_iret rfl rfl rfl (by refine ⟨congrArg (fun z => some (Value.int z)) ?_, rfl⟩; unfold two_ cmp_ shf_ shl_; grind)
        by_cases h34_15 : n = (15 : Int32)
        · refine y_tsw (t := 233) rfl rfl (by rw [h34_15]; rfl) ?_
          refine y_st rfl rfl rfl rfl rfl (fun _ _ => rfl) ?_
          refine y_st rfl rfl rfl rfl rfl (fun _ _ => rfl) ?_
          show yP (xg xs) (d + 1) 363 235 [(4, .int (0 : Int32)), (3, .int (0 : Int32)), (0, .int n), (1, .int x), (2, .int y)] [.int y, .int x] m _
          refine y_ige (t := 242) rfl rfl rfl (fun h235 => ?_) (fun h235 => ?_)
          · refine y_st rfl rfl rfl rfl rfl (fun _ _ => rfl) ?_
            show yP (xg xs) (d + 1) 363 243 [(4, .int (0 : Int32)), (3, .int (0 : Int32)), (0, .int n), (1, .int x), (2, .int y)] [.int (0 : Int32)] m _
            exact y_iret rfl rfl rfl (by refine ⟨congrArg (fun z => some (Value.int z)) ?_, rfl⟩; unfold two_ cmp_ shf_ shl_; grind)
          · refine y_st rfl rfl rfl rfl rfl (fun _ _ => rfl) ?_
            refine y_st rfl rfl rfl rfl rfl (fun _ _ => rfl) ?_
            show yP (xg xs) (d + 1) 363 243 [(4, .int (0 : Int32)), (3, .int (0 : Int32)), (0, .int n), (1, .int x), (2, .int y)] [.int (1 : Int32)] m _
            exact y_iret rfl rfl rfl (by refine ⟨congrArg (fun z => some (Value.int z)) ?_, rfl⟩; unfold two_ cmp_ shf_ shl_; grind)
        by_cases h34_16 : n = (16 : Int32)
        · refine y_tsw (t := 244) rfl rfl (by rw [h34_16]; rfl) ?_
          refine y_st rfl rfl rfl rfl rfl (fun _ _ => rfl) ?_
          refine y_st rfl rfl rfl rfl rfl (fun _ _ => rfl) ?_
          show yP (xg xs) (d + 1) 363 246 [(4, .int (0 : Int32)), (3, .int (0 : Int32)), (0, .int n), (1, .int x), (2, .int y)] [.int y, .int x] m _
          refine y_ile (t := 253) rfl rfl rfl (fun h246 => ?_) (fun h246 => ?_)
          · refine y_st rfl rfl rfl rfl rfl (fun _ _ => rfl) ?_
            show yP (xg xs) (d + 1) 363 254 [(4, .int (0 : Int32)), (3, .int (0 : Int32)), (0, .int n), (1, .int x), (2, .int y)] [.int (0 : Int32)] m _
            exact y_iret rfl rfl rfl (by refine ⟨congrArg (fun z => some (Value.int z)) ?_, rfl⟩; unfold two_ cmp_ shf_ shl_; grind)
          · refine y_st rfl rfl rfl rfl rfl (fun _ _ => rfl) ?_
            refine y_st rfl rfl rfl rfl rfl (fun _ _ => rfl) ?_
            show yP (xg xs) (d + 1) 363 254 [(4, .int (0 : Int32)), (3, .int (0 : Int32)), (0, .int n), (1, .int x), (2, .int y)] [.int (1 : Int32)] m _
            exact y_iret rfl rfl rfl (by refine ⟨congrArg (fun z => some (Value.int z)) ?_, rfl⟩; unfold two_ cmp_ shf_ shl_; grind)
        by_cases h34_17 : n = (17 : Int32)
        · refine y_tsw (t := 255) rfl rfl (by rw [h34_17]; rfl) ?_
          refine y_st rfl rfl rfl rfl rfl (fun _ _ => rfl) ?_
          refine y_st rfl rfl rfl rfl rfl (fun _ _ => rfl) ?_
          show yP (xg xs) (d + 1) 363 257 [(4, .int (0 : Int32)), (3, .int (0 : Int32)), (0, .int n), (1, .int x), (2, .int y)] [.int y, .int x] m _
          refine y_igt (t := 264) rfl rfl rfl (fun h257 => ?_) (fun h257 => ?_)
          · refine y_st rfl rfl rfl rfl rfl (fun _ _ => rfl) ?_
            show yP (xg xs) (d + 1) 363 265 [(4, .int (0 : Int32)), (3, .int (0 : Int32)), (0, .int n), (1, .int x), (2, .int y)] [.int (0 : Int32)] m _
            exact y_iret rfl rfl rfl (by refine ⟨congrArg (fun z => some (Value.int z)) ?_, rfl⟩; unfold two_ cmp_ shf_ shl_; grind)
          · refine y_st rfl rfl rfl rfl rfl (fun _ _ => rfl) ?_
            refine y_st rfl rfl rfl rfl rfl (fun _ _ => rfl) ?_
            show yP (xg xs) (d + 1) 363 265 [(4, .int (0 : Int32)), (3, .int (0 : Int32)), (0, .int n), (1, .int x), (2, .int y)] [.int (1 : Int32)] m _
            exact y_iret rfl rfl rfl (by refine ⟨congrArg (fun z => some (Value.int z)) ?_, rfl⟩; unfold two_ cmp_ shf_ shl_; grind)
        by_cases h34_18 : n = (18 : Int32)
        · refine y_tsw (t := 266) rfl rfl (by rw [h34_18]; rfl) ?_
          refine y_st rfl rfl rfl rfl rfl (fun _ _ => rfl) ?_
          refine y_st rfl rfl rfl rfl rfl (fun _ _ => rfl) ?_
          show yP (xg xs) (d + 1) 363 268 [(4, .int (0 : Int32)), (3, .int (0 : Int32)), (0, .int n), (1, .int x), (2, .int y)] [.int y, .int x] m _
          refine y_ilt (t := 275) rfl rfl rfl (fun h268 => ?_) (fun h268 => ?_)
          · refine y_st rfl rfl rfl rfl rfl (fun _ _ => rfl) ?_
            show yP (xg xs) (d + 1) 363 276 [(4, .int (0 : Int32)), (3, .int (0 : Int32)), (0, .int n), (1, .int x), (2, .int y)] [.int (0 : Int32)] m _
            exact y_iret rfl rfl rfl (by refine ⟨congrArg (fun z => some (Value.int z)) ?_, rfl⟩; unfold two_ cmp_ shf_ shl_; grind)
          · refine y_st rfl rfl rfl rfl rfl (fun _ _ => rfl) ?_
            refine y_st rfl rfl rfl rfl rfl (fun _ _ => rfl) ?_
            show yP (xg xs) (d + 1) 363 276 [(4, .int (0 : Int32)), (3, .int (0 : Int32)), (0, .int n), (1, .int x), (2, .int y)] [.int (1 : Int32)] m _
            exact y_iret rfl rfl rfl (by refine ⟨congrArg (fun z => some (Value.int z)) ?_, rfl⟩; unfold two_ cmp_ shf_ shl_; grind)
        by_cases h34_19 : n = (19 : Int32)
        · refine y_tsw (t := 277) rfl rfl (by rw [h34_19]; rfl) ?_
          refine y_st rfl rfl rfl rfl rfl (fun _ _ => rfl) ?_
          show yP (xg xs) (d + 1) 363 278 [(4, .int (0 : Int32)), (3, .int (0 : Int32)), (0, .int n), (1, .int x), (2, .int y)] [.int (0 : Int32)] m _
          refine y_zeq (t := 290) rfl rfl rfl (fun h278 => ?_) (fun h278 => ?_)
          · refine y_st rfl rfl rfl rfl rfl (fun _ _ => rfl) ?_
            show yP (xg xs) (d + 1) 363 291 [(4, .int (0 : Int32)), (3, .int (0 : Int32)), (0, .int n), (1, .int x), (2, .int y)] [.int (0 : Int32)] m _
            exact y_iret rfl rfl rfl (by refine ⟨congrArg (fun z => some (Value.int z)) ?_, rfl⟩; unfold two_ cmp_ shf_ shl_; grind)
          · exact absurd h278 (by decide)
        by_cases h34_20 : n = (20 : Int32)
        · refine y_tsw (t := 292) rfl rfl (by rw [h34_20]; rfl) ?_
          refine y_st rfl rfl rfl rfl rfl (fun _ _ => rfl) ?_
          show yP (xg xs) (d + 1) 363 293 [(4, .int (0 : Int32)), (3, .int (0 : Int32)), (0, .int n), (1, .int x), (2, .int y)] [.int (0 : Int32)] m _
          refine y_zeq (t := 309) rfl rfl rfl (fun h293 => ?_) (fun h293 => ?_)
          · refine y_st rfl rfl rfl rfl rfl (fun _ _ => rfl) ?_
            show yP (xg xs) (d + 1) 363 310 [(4, .int (0 : Int32)), (3, .int (0 : Int32)), (0, .int n), (1, .int x), (2, .int y)] [.int (0 : Int32)] m _
            exact y_iret rfl rfl rfl (by refine ⟨congrArg (fun z => some (Value.int z)) ?_, rfl⟩; unfold two_ cmp_ shf_ shl_; grind)
          · exact absurd h293 (by decide)
        by_cases h34_21 : n = (21 : Int32)
        · refine y_tsw (t := 311) rfl rfl (by rw [h34_21]; rfl) ?_
          refine y_st rfl rfl rfl rfl rfl (fun _ _ => rfl) ?_
          show yP (xg xs) (d + 1) 363 313 [(4, .int (0 : Int32)), (3, .int (0 : Int32)), (0, .int n), (1, .int x), (2, .int y)] [.int (0 : Int32)] m _
          refine y_zeq (t := 322) rfl rfl rfl (fun h313 => ?_) (fun h313 => ?_)
          · refine y_st rfl rfl rfl rfl rfl (fun _ _ => rfl) ?_
            show yP (xg xs) (d + 1) 363 323 [(4, .int (0 : Int32)), (3, .int (0 : Int32)), (0, .int n), (1, .int x), (2, .int y)] [.int (0 : Int32)] m _
            exact y_iret rfl rfl rfl (by refine ⟨congrArg (fun z => some (Value.int z)) ?_, rfl⟩; unfold two_ cmp_ shf_ shl_; grind)
          · exact absurd h313 (by decide)
        by_cases h34_22 : n = (22 : Int32)
        · refine y_tsw (t := 324) rfl rfl (by rw [h34_22]; rfl) ?_
          refine y_st rfl rfl rfl rfl rfl (fun _ _ => rfl) ?_
          show yP (xg xs) (d + 1) 363 326 [(4, .int (0 : Int32)), (3, .int (0 : Int32)), (0, .int n), (1, .int x), (2, .int y)] [.int (0 : Int32)] m _
          refine y_zeq (t := 335) rfl rfl rfl (fun h326 => ?_) (fun h326 => ?_)
          · refine y_st rfl rfl rfl rfl rfl (fun _ _ => rfl) ?_
            show yP (xg xs) (d + 1) 363 336 [(4, .int (0 : Int32)), (3, .int (0 : Int32)), (0, .int n), (1, .int x), (2, .int y)] [.int (0 : Int32)] m _
            exact y_iret rfl rfl rfl (by refine ⟨congrArg (fun z => some (Value.int z)) ?_, rfl⟩; unfold two_ cmp_ shf_ shl_; grind)
          · exact absurd h326 (by decide)
        by_cases h34_23 : n = (23 : Int32)
        · refine y_tsw (t := 337) rfl rfl (by rw [h34_23]; rfl) ?_
          refine y_st rfl rfl rfl rfl rfl (fun _ _ => rfl) ?_
          refine y_st rfl rfl rfl rfl rfl (fun _ _ => rfl) ?_
          show yP (xg xs) (d + 1) 363 339 [(4, .int (0 : Int32)), (3, .int (0 : Int32)), (0, .int n), (1, .int x), (2, .int y)] [.int y, .int x] m _
          refine y_ige (t := 346) rfl rfl rfl (fun h339 => ?_) (fun h339 => ?_)
          · refine y_st rfl rfl rfl rfl rfl (fun _ _ => rfl) ?_
            show yP (xg xs) (d + 1) 363 347 [(4, .int (0 : Int32)), (3, .int (0 : Int32)), (0, .int n), (1, .int x), (2, .int y)] [.int y] m _
            exact y_iret rfl rfl rfl (by refine ⟨congrArg (fun z => some (Value.int z)) ?_, rfl⟩; unfold two_ cmp_ shf_ shl_; grind)
          · refine y_st rfl rfl rfl rfl rfl (fun _ _ => rfl) ?_
            refine y_st rfl rfl rfl rfl rfl (fun _ _ => rfl) ?_
            show yP (xg xs) (d + 1) 363 347 [(4, .int (0 : Int32)), (3, .int (0 : Int32)), (0, .int n), (1, .int x), (2, .int y)] [.int x] m _
            exact y_iret rfl rfl rfl (by refine ⟨congrArg (fun z => some (Value.int z)) ?_, rfl⟩; unfold two_ cmp_ shf_ shl_; grind)
        refine y_tsw (t := 348) rfl rfl ((if_pos (by have g0 := ne_lit (0 : Int32) 0 rfl h34_0; have g1 := ne_lit (1 : Int32) 1 rfl h34_1; have g2 := ne_lit (2 : Int32) 2 rfl h34_2; have g3 := ne_lit (3 : Int32) 3 rfl h34_3; have g4 := ne_lit (4 : Int32) 4 rfl h34_4; have g5 := ne_lit (5 : Int32) 5 rfl h34_5; have g6 := ne_lit (6 : Int32) 6 rfl h34_6; have g7 := ne_lit (7 : Int32) 7 rfl h34_7; have g8 := ne_lit (8 : Int32) 8 rfl h34_8; have g9 := ne_lit (9 : Int32) 9 rfl h34_9; have g10 := ne_lit (10 : Int32) 10 rfl h34_10; have g11 := ne_lit (11 : Int32) 11 rfl h34_11; have g12 := ne_lit (12 : Int32) 12 rfl h34_12; have g13 := ne_lit (13 : Int32) 13 rfl h34_13; have g14 := ne_lit (14 : Int32) 14 rfl h34_14; have g15 := ne_lit (15 : Int32) 15 rfl h34_15; have g16 := ne_lit (16 : Int32) 16 rfl h34_16; have g17 := ne_lit (17 : Int32) 17 rfl h34_17; have g18 := ne_lit (18 : Int32) 18 rfl h34_18; have g19 := ne_lit (19 : Int32) 19 rfl h34_19; have g20 := ne_lit (20 : Int32) 20 rfl h34_20; have g21 := ne_lit (21 : Int32) 21 rfl h34_21; have g22 := ne_lit (22 : Int32) 22 rfl h34_22; have g23 := ne_lit (23 : Int32) 23 rfl h34_23; omega)).trans rfl) ?_
        refine y_st rfl rfl rfl rfl rfl (fun _ _ => rfl) ?_
        refine y_st rfl rfl rfl rfl rfl (fun _ _ => rfl) ?_
        show yP (xg xs) (d + 1) 363 350 [(4, .int (0 : Int32)), (3, .int (0 : Int32)), (0, .int n), (1, .int x), (2, .int y)] [.int y, .int x] m _
        refine y_ile (t := 357) rfl rfl rfl (fun h350 => ?_) (fun h350 => ?_)
        · refine y_st rfl rfl rfl rfl rfl (fun _ _ => rfl) ?_
          show yP (xg xs) (d + 1) 363 358 [(4, .int (0 : Int32)), (3, .int (0 : Int32)), (0, .int n), (1, .int x), (2, .int y)] [.int y] m _
          exact y_iret rfl rfl rfl (by refine ⟨congrArg (fun z => some (Value.int z)) ?_, rfl⟩; unfold two_ cmp_ shf_ shl_; grind)
        · refine y_st rfl rfl rfl rfl rfl (fun _ _ => rfl) ?_
          refine y_st rfl rfl rfl rfl rfl (fun _ _ => rfl) ?_
          show yP (xg xs) (d + 1) 363 358 [(4, .int (0 : Int32)), (3, .int (0 : Int32)), (0, .int n), (1, .int x), (2, .int y)] [.int x] m _
          exact y_iret rfl rfl rfl (by refine ⟨congrArg (fun z => some (Value.int z)) ?_, rfl⟩; unfold two_ cmp_ shf_ shl_; grind)
      · refine y_st rfl rfl rfl rfl rfl (fun _ _ => rfl) ?_
        refine y_st rfl rfl rfl rfl rfl (fun _ _ => rfl) ?_
        show yP (xg xs) (d + 1) 363 23 [(3, .int (0 : Int32)), (0, .int n), (1, .int x), (2, .int y)] [.int (32 : Int32), .int y] m _
        refine y_ige (t := 30) rfl rfl rfl (fun h23 => ?_) (fun h23 => ?_)
        · refine y_st rfl rfl rfl rfl rfl (fun _ _ => rfl) ?_
          refine y_st rfl rfl rfl rfl rfl (fun _ _ => rfl) ?_
          refine y_st rfl rfl rfl rfl rfl (fun _ _ => rfl) ?_
          show yP (xg xs) (d + 1) 363 34 [(4, .int (0 : Int32)), (3, .int (0 : Int32)), (0, .int n), (1, .int x), (2, .int y)] [.int n] m _
          by_cases h34_0 : n = (0 : Int32)
          · refine y_tsw (t := 144) rfl rfl (by rw [h34_0]; rfl) ?_
            refine y_st rfl rfl rfl rfl rfl (fun _ _ => rfl) ?_
            refine y_st rfl rfl rfl rfl rfl (fun _ _ => rfl) ?_
            refine y_st rfl rfl rfl rfl rfl (fun _ _ => rfl) ?_
            show yP (xg xs) (d + 1) 363 147 [(4, .int (0 : Int32)), (3, .int (0 : Int32)), (0, .int n), (1, .int x), (2, .int y)] [.int (x + y)] m _
            refine y_call rfl rfl rfl rfl rfl (Nat.le_of_ble_eq_true rfl) (Nat.le_of_ble_eq_true rfl) rfl (by decide) (c362 xs d m (x + y)) (fun v21 m21 q21 => ?_)
            obtain ⟨rfl, e21⟩ := q21; rw [e21]; clear e21
            show yP (xg xs) (d + 1) 363 150 [(4, .int (0 : Int32)), (3, .int (0 : Int32)), (0, .int n), (1, .int x), (2, .int y)] [.int (w16 (x + y))] m _
            exact y_iret rfl rfl rfl (by refine ⟨congrArg (fun z => some (Value.int z)) ?_, rfl⟩; unfold two_ cmp_ shf_ shl_; grind)
          by_cases h34_1 : n = (1 : Int32)
          · refine y_tsw (t := 151) rfl rfl (by rw [h34_1]; rfl) ?_
            refine y_st rfl rfl rfl rfl rfl (fun _ _ => rfl) ?_
            refine y_st rfl rfl rfl rfl rfl (fun _ _ => rfl) ?_
            refine y_st rfl rfl rfl rfl rfl (fun _ _ => rfl) ?_
            show yP (xg xs) (d + 1) 363 154 [(4, .int (0 : Int32)), (3, .int (0 : Int32)), (0, .int n), (1, .int x), (2, .int y)] [.int (x - y)] m _
            refine y_call rfl rfl rfl rfl rfl (Nat.le_of_ble_eq_true rfl) (Nat.le_of_ble_eq_true rfl) rfl (by decide) (c362 xs d m (x - y)) (fun v22 m22 q22 => ?_)
            obtain ⟨rfl, e22⟩ := q22; rw [e22]; clear e22
            show yP (xg xs) (d + 1) 363 157 [(4, .int (0 : Int32)), (3, .int (0 : Int32)), (0, .int n), (1, .int x), (2, .int y)] [.int (w16 (x - y))] m _
            exact y_iret rfl rfl rfl (by refine ⟨congrArg (fun z => some (Value.int z)) ?_, rfl⟩; unfold two_ cmp_ shf_ shl_; grind)
          by_cases h34_2 : n = (2 : Int32)
          · refine y_tsw (t := 158) rfl rfl (by rw [h34_2]; rfl) ?_
            refine y_st rfl rfl rfl rfl rfl (fun _ _ => rfl) ?_
            refine y_st rfl rfl rfl rfl rfl (fun _ _ => rfl) ?_
            refine y_st rfl rfl rfl rfl rfl (fun _ _ => rfl) ?_
            show yP (xg xs) (d + 1) 363 161 [(4, .int (0 : Int32)), (3, .int (0 : Int32)), (0, .int n), (1, .int x), (2, .int y)] [.int (x * y)] m _
            refine y_call rfl rfl rfl rfl rfl (Nat.le_of_ble_eq_true rfl) (Nat.le_of_ble_eq_true rfl) rfl (by decide) (c362 xs d m (x * y)) (fun v23 m23 q23 => ?_)
            obtain ⟨rfl, e23⟩ := q23; rw [e23]; clear e23
            show yP (xg xs) (d + 1) 363 164 [(4, .int (0 : Int32)), (3, .int (0 : Int32)), (0, .int n), (1, .int x), (2, .int y)] [.int (w16 (x * y))] m _
            exact y_iret rfl rfl rfl (by refine ⟨congrArg (fun z => some (Value.int z)) ?_, rfl⟩; unfold two_ cmp_ shf_ shl_; grind)
          by_cases h34_3 : n = (3 : Int32)
          · refine y_tsw (t := 165) rfl rfl (by rw [h34_3]; rfl) ?_
            refine y_st rfl rfl rfl rfl rfl (fun _ _ => rfl) ?_
            refine y_st rfl rfl rfl rfl rfl (fun _ _ => rfl) ?_
            show yP (xg xs) (d + 1) 363 167 [(4, .int (0 : Int32)), (3, .int (0 : Int32)), (0, .int n), (1, .int x), (2, .int y)] [.int y, .int x] m _
            refine y_idiv rfl rfl (by grind) ?_
            show yP (xg xs) (d + 1) 363 168 [(4, .int (0 : Int32)), (3, .int (0 : Int32)), (0, .int n), (1, .int x), (2, .int y)] [.int (x / y)] m _
            refine y_call rfl rfl rfl rfl rfl (Nat.le_of_ble_eq_true rfl) (Nat.le_of_ble_eq_true rfl) rfl (by decide) (c362 xs d m (x / y)) (fun v24 m24 q24 => ?_)
            obtain ⟨rfl, e24⟩ := q24; rw [e24]; clear e24
            show yP (xg xs) (d + 1) 363 171 [(4, .int (0 : Int32)), (3, .int (0 : Int32)), (0, .int n), (1, .int x), (2, .int y)] [.int (w16 (x / y))] m _
            exact y_iret rfl rfl rfl (by refine ⟨congrArg (fun z => some (Value.int z)) ?_, rfl⟩; unfold two_ cmp_ shf_ shl_; grind)
          by_cases h34_4 : n = (4 : Int32)
          · refine y_tsw (t := 172) rfl rfl (by rw [h34_4]; rfl) ?_
            refine y_st rfl rfl rfl rfl rfl (fun _ _ => rfl) ?_
            refine y_st rfl rfl rfl rfl rfl (fun _ _ => rfl) ?_
            show yP (xg xs) (d + 1) 363 174 [(4, .int (0 : Int32)), (3, .int (0 : Int32)), (0, .int n), (1, .int x), (2, .int y)] [.int y, .int x] m _
            refine y_irem rfl rfl (by grind) ?_
            show yP (xg xs) (d + 1) 363 175 [(4, .int (0 : Int32)), (3, .int (0 : Int32)), (0, .int n), (1, .int x), (2, .int y)] [.int (x - x / y * y)] m _
            refine y_call rfl rfl rfl rfl rfl (Nat.le_of_ble_eq_true rfl) (Nat.le_of_ble_eq_true rfl) rfl (by decide) (c362 xs d m (x - x / y * y)) (fun v25 m25 q25 => ?_)
            obtain ⟨rfl, e25⟩ := q25; rw [e25]; clear e25
            show yP (xg xs) (d + 1) 363 178 [(4, .int (0 : Int32)), (3, .int (0 : Int32)), (0, .int n), (1, .int x), (2, .int y)] [.int (w16 (x - x / y * y))] m _
            exact y_iret rfl rfl rfl (by refine ⟨congrArg (fun z => some (Value.int z)) ?_, rfl⟩; unfold two_ cmp_ shf_ shl_; grind)
          by_cases h34_5 : n = (5 : Int32)
          · refine y_tsw (t := 179) rfl rfl (by rw [h34_5]; rfl) ?_
            refine y_st rfl rfl rfl rfl rfl (fun _ _ => rfl) ?_
            refine y_st rfl rfl rfl rfl rfl (fun _ _ => rfl) ?_
            refine y_st rfl rfl rfl rfl rfl (fun _ _ => rfl) ?_
            show yP (xg xs) (d + 1) 363 182 [(4, .int (0 : Int32)), (3, .int (0 : Int32)), (0, .int n), (1, .int x), (2, .int y)] [.int (x + y)] m _
            exact y_iret rfl rfl rfl (by refine ⟨congrArg (fun z => some (Value.int z)) ?_, rfl⟩; unfold two_ cmp_ shf_ shl_; grind)
          by_cases h34_6 : n = (6 : Int32)
          · refine y_tsw (t := 183) rfl rfl (by rw [h34_6]; rfl) ?_
            refine y_st rfl rfl rfl rfl rfl (fun _ _ => rfl) ?_
            refine y_st rfl rfl rfl rfl rfl (fun _ _ => rfl) ?_
            refine y_st rfl rfl rfl rfl rfl (fun _ _ => rfl) ?_
            show yP (xg xs) (d + 1) 363 186 [(4, .int (0 : Int32)), (3, .int (0 : Int32)), (0, .int n), (1, .int x), (2, .int y)] [.int (x - y)] m _
            exact y_iret rfl rfl rfl (by refine ⟨congrArg (fun z => some (Value.int z)) ?_, rfl⟩; unfold two_ cmp_ shf_ shl_; grind)
          by_cases h34_7 : n = (7 : Int32)
          · refine y_tsw (t := 187) rfl rfl (by rw [h34_7]; rfl) ?_
            refine y_st rfl rfl rfl rfl rfl (fun _ _ => rfl) ?_
            refine y_st rfl rfl rfl rfl rfl (fun _ _ => rfl) ?_
            refine y_st rfl rfl rfl rfl rfl (fun _ _ => rfl) ?_
            show yP (xg xs) (d + 1) 363 190 [(4, .int (0 : Int32)), (3, .int (0 : Int32)), (0, .int n), (1, .int x), (2, .int y)] [.int (x * y)] m _
            exact y_iret rfl rfl rfl (by refine ⟨congrArg (fun z => some (Value.int z)) ?_, rfl⟩; unfold two_ cmp_ shf_ shl_; grind)
          by_cases h34_8 : n = (8 : Int32)
          · refine y_tsw (t := 191) rfl rfl (by rw [h34_8]; rfl) ?_
            refine y_st rfl rfl rfl rfl rfl (fun _ _ => rfl) ?_
            refine y_st rfl rfl rfl rfl rfl (fun _ _ => rfl) ?_
            show yP (xg xs) (d + 1) 363 193 [(4, .int (0 : Int32)), (3, .int (0 : Int32)), (0, .int n), (1, .int x), (2, .int y)] [.int y, .int x] m _
            refine y_idiv rfl rfl (by grind) ?_
            show yP (xg xs) (d + 1) 363 194 [(4, .int (0 : Int32)), (3, .int (0 : Int32)), (0, .int n), (1, .int x), (2, .int y)] [.int (x / y)] m _
            exact y_iret rfl rfl rfl (by refine ⟨congrArg (fun z => some (Value.int z)) ?_, rfl⟩; unfold two_ cmp_ shf_ shl_; grind)
          by_cases h34_9 : n = (9 : Int32)
          · refine y_tsw (t := 195) rfl rfl (by rw [h34_9]; rfl) ?_
            refine y_st rfl rfl rfl rfl rfl (fun _ _ => rfl) ?_
            refine y_st rfl rfl rfl rfl rfl (fun _ _ => rfl) ?_
            show yP (xg xs) (d + 1) 363 197 [(4, .int (0 : Int32)), (3, .int (0 : Int32)), (0, .int n), (1, .int x), (2, .int y)] [.int y, .int x] m _
            refine y_irem rfl rfl (by grind) ?_
            show yP (xg xs) (d + 1) 363 198 [(4, .int (0 : Int32)), (3, .int (0 : Int32)), (0, .int n), (1, .int x), (2, .int y)] [.int (x - x / y * y)] m _
            exact y_iret rfl rfl rfl (by refine ⟨congrArg (fun z => some (Value.int z)) ?_, rfl⟩; unfold two_ cmp_ shf_ shl_; grind)
          by_cases h34_10 : n = (10 : Int32)
          · refine y_tsw (t := 199) rfl rfl (by rw [h34_10]; rfl) ?_
            refine y_st rfl rfl rfl rfl rfl (fun _ _ => rfl) ?_
            refine y_st rfl rfl rfl rfl rfl (fun _ _ => rfl) ?_
            refine y_st rfl rfl rfl rfl rfl (fun _ _ => rfl) ?_
            show yP (xg xs) (d + 1) 363 202 [(4, .int (0 : Int32)), (3, .int (0 : Int32)), (0, .int n), (1, .int x), (2, .int y)] [.int (x &&& y)] m _
            exact y_iret rfl rfl rfl (by refine ⟨congrArg (fun z => some (Value.int z)) ?_, rfl⟩; unfold two_ cmp_ shf_ shl_; grind)
          by_cases h34_11 : n = (11 : Int32)
          · refine y_tsw (t := 203) rfl rfl (by rw [h34_11]; rfl) ?_
            refine y_st rfl rfl rfl rfl rfl (fun _ _ => rfl) ?_
            refine y_st rfl rfl rfl rfl rfl (fun _ _ => rfl) ?_
            refine y_st rfl rfl rfl rfl rfl (fun _ _ => rfl) ?_
            show yP (xg xs) (d + 1) 363 206 [(4, .int (0 : Int32)), (3, .int (0 : Int32)), (0, .int n), (1, .int x), (2, .int y)] [.int (x ||| y)] m _
            exact y_iret rfl rfl rfl (by refine ⟨congrArg (fun z => some (Value.int z)) ?_, rfl⟩; unfold two_ cmp_ shf_ shl_; grind)
          by_cases h34_12 : n = (12 : Int32)
          · refine y_tsw (t := 207) rfl rfl (by rw [h34_12]; rfl) ?_
            refine y_st rfl rfl rfl rfl rfl (fun _ _ => rfl) ?_
            refine y_st rfl rfl rfl rfl rfl (fun _ _ => rfl) ?_
            refine y_st rfl rfl rfl rfl rfl (fun _ _ => rfl) ?_
            show yP (xg xs) (d + 1) 363 210 [(4, .int (0 : Int32)), (3, .int (0 : Int32)), (0, .int n), (1, .int x), (2, .int y)] [.int (x ^^^ y)] m _
            exact y_iret rfl rfl rfl (by refine ⟨congrArg (fun z => some (Value.int z)) ?_, rfl⟩; unfold two_ cmp_ shf_ shl_; grind)
          by_cases h34_13 : n = (13 : Int32)
          · refine y_tsw (t := 211) rfl rfl (by rw [h34_13]; rfl) ?_
            refine y_st rfl rfl rfl rfl rfl (fun _ _ => rfl) ?_
            refine y_st rfl rfl rfl rfl rfl (fun _ _ => rfl) ?_
            show yP (xg xs) (d + 1) 363 213 [(4, .int (0 : Int32)), (3, .int (0 : Int32)), (0, .int n), (1, .int x), (2, .int y)] [.int y, .int x] m _
            refine y_ine (t := 220) rfl rfl rfl (fun h213 => ?_) (fun h213 => ?_)
            · refine y_st rfl rfl rfl rfl rfl (fun _ _ => rfl) ?_
              show yP (xg xs) (d + 1) 363 221 [(4, .int (0 : Int32)), (3, .int (0 : Int32)), (0, .int n), (1, .int x), (2, .int y)] [.int (0 : Int32)] m _
              exact y_iret rfl rfl rfl (by refine ⟨congrArg (fun z => some (Value.int z)) ?_, rfl⟩; unfold two_ cmp_ shf_ shl_; grind)
            · refine y_st rfl rfl rfl rfl rfl (fun _ _ => rfl) ?_
              refine y_st rfl rfl rfl rfl rfl (fun _ _ => rfl) ?_
              show yP (xg xs) (d + 1) 363 221 [(4, .int (0 : Int32)), (3, .int (0 : Int32)), (0, .int n), (1, .int x), (2, .int y)] [.int (1 : Int32)] m _
              exact y_iret rfl rfl rfl (by refine ⟨congrArg (fun z => some (Value.int z)) ?_, rfl⟩; unfold two_ cmp_ shf_ shl_; grind)
          by_cases h34_14 : n = (14 : Int32)
          · refine y_tsw (t := 222) rfl rfl (by rw [h34_14]; rfl) ?_
            refine y_st rfl rfl rfl rfl rfl (fun _ _ => rfl) ?_
            refine y_st rfl rfl rfl rfl rfl (fun _ _ => rfl) ?_
            show yP (xg xs) (d + 1) 363 224 [(4, .int (0 : Int32)), (3, .int (0 : Int32)), (0, .int n), (1, .int x), (2, .int y)] [.int y, .int x] m _
            refine y_ieq (t := 231) rfl rfl rfl (fun h224 => ?_) (fun h224 => ?_)
            · refine y_st rfl rfl rfl rfl rfl (fun _ _ => rfl) ?_
              show yP (xg xs) (d + 1) 363 232 [(4, .int (0 : Int32)), (3, .int (0 : Int32)), (0, .int n), (1, .int x), (2, .int y)] [.int (0 : Int32)] m _
              exact y_iret rfl rfl rfl (by refine ⟨congrArg (fun z => some (Value.int z)) ?_, rfl⟩; unfold two_ cmp_ shf_ shl_; grind)
            · refine y_st rfl rfl rfl rfl rfl (fun _ _ => rfl) ?_
              refine y_st rfl rfl rfl rfl rfl (fun _ _ => rfl) ?_
              show yP (xg xs) (d + 1) 363 232 [(4, .int (0 : Int32)), (3, .int (0 : Int32)), (0, .int n), (1, .int x), (2, .int y)] [.int (1 : Int32)] m _
              exact y_iret rfl rfl rfl (by refine ⟨congrArg (fun z => some (Value.int z)) ?_, rfl⟩; unfold two_ cmp_ shf_ shl_; grind)
          by_cases h34_15 : n = (15 : Int32)
          · refine y_tsw (t := 233) rfl rfl (by rw [h34_15]; rfl) ?_
            refine y_st rfl rfl rfl rfl rfl (fun _ _ => rfl) ?_
            refine y_st rfl rfl rfl rfl rfl (fun _ _ => rfl) ?_
            show yP (xg xs) (d + 1) 363 235 [(4, .int (0 : Int32)), (3, .int (0 : Int32)), (0, .int n), (1, .int x), (2, .int y)] [.int y, .int x] m _
            refine y_ige (t := 242) rfl rfl rfl (fun h235 => ?_) (fun h235 => ?_)
            · refine y_st rfl rfl rfl rfl rfl (fun _ _ => rfl) ?_
              show yP (xg xs) (d + 1) 363 243 [(4, .int (0 : Int32)), (3, .int (0 : Int32)), (0, .int n), (1, .int x), (2, .int y)] [.int (0 : Int32)] m _
              exact y_iret rfl rfl rfl (by refine ⟨congrArg (fun z => some (Value.int z)) ?_, rfl⟩; unfold two_ cmp_ shf_ shl_; grind)
            · refine y_st rfl rfl rfl rfl rfl (fun _ _ => rfl) ?_
              refine y_st rfl rfl rfl rfl rfl (fun _ _ => rfl) ?_
              show yP (xg xs) (d + 1) 363 243 [(4, .int (0 : Int32)), (3, .int (0 : Int32)), (0, .int n), (1, .int x), (2, .int y)] [.int (1 : Int32)] m _
              exact y_iret rfl rfl rfl (by refine ⟨congrArg (fun z => some (Value.int z)) ?_, rfl⟩; unfold two_ cmp_ shf_ shl_; grind)
          by_cases h34_16 : n = (16 : Int32)
          · refine y_tsw (t := 244) rfl rfl (by rw [h34_16]; rfl) ?_
            refine y_st rfl rfl rfl rfl rfl (fun _ _ => rfl) ?_
            refine y_st rfl rfl rfl rfl rfl (fun _ _ => rfl) ?_
            show yP (xg xs) (d + 1) 363 246 [(4, .int (0 : Int32)), (3, .int (0 : Int32)), (0, .int n), (1, .int x), (2, .int y)] [.int y, .int x] m _
            refine y_ile (t := 253) rfl rfl rfl (fun h246 => ?_) (fun h246 => ?_)
            · refine y_st rfl rfl rfl rfl rfl (fun _ _ => rfl) ?_
              show yP (xg xs) (d + 1) 363 254 [(4, .int (0 : Int32)), (3, .int (0 : Int32)), (0, .int n), (1, .int x), (2, .int y)] [.int (0 : Int32)] m _
              exact y_iret rfl rfl rfl (by refine ⟨congrArg (fun z => some (Value.int z)) ?_, rfl⟩; unfold two_ cmp_ shf_ shl_; grind)
            · refine y_st rfl rfl rfl rfl rfl (fun _ _ => rfl) ?_
              refine y_st rfl rfl rfl rfl rfl (fun _ _ => rfl) ?_
              show yP (xg xs) (d + 1) 363 254 [(4, .int (0 : Int32)), (3, .int (0 : Int32)), (0, .int n), (1, .int x), (2, .int y)] [.int (1 : Int32)] m _
              exact y_iret rfl rfl rfl (by refine ⟨congrArg (fun z => some (Value.int z)) ?_, rfl⟩; unfold two_ cmp_ shf_ shl_; grind)
          by_cases h34_17 : n = (17 : Int32)
          · refine y_tsw (t := 255) rfl rfl (by rw [h34_17]; rfl) ?_
            refine y_st rfl rfl rfl rfl rfl (fun _ _ => rfl) ?_
            refine y_st rfl rfl rfl rfl rfl (fun _ _ => rfl) ?_
            show yP (xg xs) (d + 1) 363 257 [(4, .int (0 : Int32)), (3, .int (0 : Int32)), (0, .int n), (1, .int x), (2, .int y)] [.int y, .int x] m _
            refine y_igt (t := 264) rfl rfl rfl (fun h257 => ?_) (fun h257 => ?_)
            · refine y_st rfl rfl rfl rfl rfl (fun _ _ => rfl) ?_
              show yP (xg xs) (d + 1) 363 265 [(4, .int (0 : Int32)), (3, .int (0 : Int32)), (0, .int n), (1, .int x), (2, .int y)] [.int (0 : Int32)] m _
              exact y_iret rfl rfl rfl (by refine ⟨congrArg (fun z => some (Value.int z)) ?_, rfl⟩; unfold two_ cmp_ shf_ shl_; grind)
            · refine y_st rfl rfl rfl rfl rfl (fun _ _ => rfl) ?_
              refine y_st rfl rfl rfl rfl rfl (fun _ _ => rfl) ?_
              show yP (xg xs) (d + 1) 363 265 [(4, .int (0 : Int32)), (3, .int (0 : Int32)), (0, .int n), (1, .int x), (2, .int y)] [.int (1 : Int32)] m _
              exact y_iret rfl rfl rfl (by refine ⟨congrArg (fun z => some (Value.int z)) ?_, rfl⟩; unfold two_ cmp_ shf_ shl_; grind)
          by_cases h34_18 : n = (18 : Int32)
          · refine y_tsw (t := 266) rfl rfl (by rw [h34_18]; rfl) ?_
            refine y_st rfl rfl rfl rfl rfl (fun _ _ => rfl) ?_
            refine y_st rfl rfl rfl rfl rfl (fun _ _ => rfl) ?_
            show yP (xg xs) (d + 1) 363 268 [(4, .int (0 : Int32)), (3, .int (0 : Int32)), (0, .int n), (1, .int x), (2, .int y)] [.int y, .int x] m _
            refine y_ilt (t := 275) rfl rfl rfl (fun h268 => ?_) (fun h268 => ?_)
            · refine y_st rfl rfl rfl rfl rfl (fun _ _ => rfl) ?_
              show yP (xg xs) (d + 1) 363 276 [(4, .int (0 : Int32)), (3, .int (0 : Int32)), (0, .int n), (1, .int x), (2, .int y)] [.int (0 : Int32)] m _
              exact y_iret rfl rfl rfl (by refine ⟨congrArg (fun z => some (Value.int z)) ?_, rfl⟩; unfold two_ cmp_ shf_ shl_; grind)
            · refine y_st rfl rfl rfl rfl rfl (fun _ _ => rfl) ?_
              refine y_st rfl rfl rfl rfl rfl (fun _ _ => rfl) ?_
              show yP (xg xs) (d + 1) 363 276 [(4, .int (0 : Int32)), (3, .int (0 : Int32)), (0, .int n), (1, .int x), (2, .int y)] [.int (1 : Int32)] m _
              exact y_iret rfl rfl rfl (by refine ⟨congrArg (fun z => some (Value.int z)) ?_, rfl⟩; unfold two_ cmp_ shf_ shl_; grind)
          by_cases h34_19 : n = (19 : Int32)
          · refine y_tsw (t := 277) rfl rfl (by rw [h34_19]; rfl) ?_
            refine y_st rfl rfl rfl rfl rfl (fun _ _ => rfl) ?_
            show yP (xg xs) (d + 1) 363 278 [(4, .int (0 : Int32)), (3, .int (0 : Int32)), (0, .int n), (1, .int x), (2, .int y)] [.int (0 : Int32)] m _
            refine y_zeq (t := 290) rfl rfl rfl (fun h278 => ?_) (fun h278 => ?_)
            · refine y_st rfl rfl rfl rfl rfl (fun _ _ => rfl) ?_
              show yP (xg xs) (d + 1) 363 291 [(4, .int (0 : Int32)), (3, .int (0 : Int32)), (0, .int n), (1, .int x), (2, .int y)] [.int (0 : Int32)] m _
              exact y_iret rfl rfl rfl (by refine ⟨congrArg (fun z => some (Value.int z)) ?_, rfl⟩; unfold two_ cmp_ shf_ shl_; grind)
            · exact absurd h278 (by decide)
          by_cases h34_20 : n = (20 : Int32)
          · refine y_tsw (t := 292) rfl rfl (by rw [h34_20]; rfl) ?_
            refine y_st rfl rfl rfl rfl rfl (fun _ _ => rfl) ?_
            show yP (xg xs) (d + 1) 363 293 [(4, .int (0 : Int32)), (3, .int (0 : Int32)), (0, .int n), (1, .int x), (2, .int y)] [.int (0 : Int32)] m _
            refine y_zeq (t := 309) rfl rfl rfl (fun h293 => ?_) (fun h293 => ?_)
            · refine y_st rfl rfl rfl rfl rfl (fun _ _ => rfl) ?_
              show yP (xg xs) (d + 1) 363 310 [(4, .int (0 : Int32)), (3, .int (0 : Int32)), (0, .int n), (1, .int x), (2, .int y)] [.int (0 : Int32)] m _
              exact y_iret rfl rfl rfl (by refine ⟨congrArg (fun z => some (Value.int z)) ?_, rfl⟩; unfold two_ cmp_ shf_ shl_; grind)
            · exact absurd h293 (by decide)
          by_cases h34_21 : n = (21 : Int32)
          · refine y_tsw (t := 311) rfl rfl (by rw [h34_21]; rfl) ?_
            refine y_st rfl rfl rfl rfl rfl (fun _ _ => rfl) ?_
            show yP (xg xs) (d + 1) 363 313 [(4, .int (0 : Int32)), (3, .int (0 : Int32)), (0, .int n), (1, .int x), (2, .int y)] [.int (0 : Int32)] m _
            refine y_zeq (t := 322) rfl rfl rfl (fun h313 => ?_) (fun h313 => ?_)
            · refine y_st rfl rfl rfl rfl rfl (fun _ _ => rfl) ?_
              show yP (xg xs) (d + 1) 363 323 [(4, .int (0 : Int32)), (3, .int (0 : Int32)), (0, .int n), (1, .int x), (2, .int y)] [.int (0 : Int32)] m _
              exact y_iret rfl rfl rfl (by refine ⟨congrArg (fun z => some (Value.int z)) ?_, rfl⟩; unfold two_ cmp_ shf_ shl_; grind)
            · exact absurd h313 (by decide)
          by_cases h34_22 : n = (22 : Int32)
          · refine y_tsw (t := 324) rfl rfl (by rw [h34_22]; rfl) ?_
            refine y_st rfl rfl rfl rfl rfl (fun _ _ => rfl) ?_
            show yP (xg xs) (d + 1) 363 326 [(4, .int (0 : Int32)), (3, .int (0 : Int32)), (0, .int n), (1, .int x), (2, .int y)] [.int (0 : Int32)] m _
            refine y_zeq (t := 335) rfl rfl rfl (fun h326 => ?_) (fun h326 => ?_)
            · refine y_st rfl rfl rfl rfl rfl (fun _ _ => rfl) ?_
              show yP (xg xs) (d + 1) 363 336 [(4, .int (0 : Int32)), (3, .int (0 : Int32)), (0, .int n), (1, .int x), (2, .int y)] [.int (0 : Int32)] m _
              exact y_iret rfl rfl rfl (by refine ⟨congrArg (fun z => some (Value.int z)) ?_, rfl⟩; unfold two_ cmp_ shf_ shl_; grind)
            · exact absurd h326 (by decide)
          by_cases h34_23 : n = (23 : Int32)
          · refine y_tsw (t := 337) rfl rfl (by rw [h34_23]; rfl) ?_
            refine y_st rfl rfl rfl rfl rfl (fun _ _ => rfl) ?_
            refine y_st rfl rfl rfl rfl rfl (fun _ _ => rfl) ?_
            show yP (xg xs) (d + 1) 363 339 [(4, .int (0 : Int32)), (3, .int (0 : Int32)), (0, .int n), (1, .int x), (2, .int y)] [.int y, .int x] m _
            refine y_ige (t := 346) rfl rfl rfl (fun h339 => ?_) (fun h339 => ?_)
            · refine y_st rfl rfl rfl rfl rfl (fun _ _ => rfl) ?_
              show yP (xg xs) (d + 1) 363 347 [(4, .int (0 : Int32)), (3, .int (0 : Int32)), (0, .int n), (1, .int x), (2, .int y)] [.int y] m _
              exact y_iret rfl rfl rfl (by refine ⟨congrArg (fun z => some (Value.int z)) ?_, rfl⟩; unfold two_ cmp_ shf_ shl_; grind)
            · refine y_st rfl rfl rfl rfl rfl (fun _ _ => rfl) ?_
              refine y_st rfl rfl rfl rfl rfl (fun _ _ => rfl) ?_
              show yP (xg xs) (d + 1) 363 347 [(4, .int (0 : Int32)), (3, .int (0 : Int32)), (0, .int n), (1, .int x), (2, .int y)] [.int x] m _
              exact y_iret rfl rfl rfl (by refine ⟨congrArg (fun z => some (Value.int z)) ?_, rfl⟩; unfold two_ cmp_ shf_ shl_; grind)
          refine y_tsw (t := 348) rfl rfl ((if_pos (by have g0 := ne_lit (0 : Int32) 0 rfl h34_0; have g1 := ne_lit (1 : Int32) 1 rfl h34_1; have g2 := ne_lit (2 : Int32) 2 rfl h34_2; have g3 := ne_lit (3 : Int32) 3 rfl h34_3; have g4 := ne_lit (4 : Int32) 4 rfl h34_4; have g5 := ne_lit (5 : Int32) 5 rfl h34_5; have g6 := ne_lit (6 : Int32) 6 rfl h34_6; have g7 := ne_lit (7 : Int32) 7 rfl h34_7; have g8 := ne_lit (8 : Int32) 8 rfl h34_8; have g9 := ne_lit (9 : Int32) 9 rfl h34_9; have g10 := ne_lit (10 : Int32) 10 rfl h34_10; have g11 := ne_lit (11 : Int32) 11 rfl h34_11; have g12 := ne_lit (12 : Int32) 12 rfl h34_12; have g13 := ne_lit (13 : Int32) 13 rfl h34_13; have g14 := ne_lit (14 : Int32) 14 rfl h34_14; have g15 := ne_lit (15 : Int32) 15 rfl h34_15; have g16 := ne_lit (16 : Int32) 16 rfl h34_16; have g17 := ne_lit (17 : Int32) 17 rfl h34_17; have g18 := ne_lit (18 : Int32) 18 rfl h34_18; have g19 := ne_lit (19 : Int32) 19 rfl h34_19; have g20 := ne_lit (20 : Int32) 20 rfl h34_20; have g21 := ne_lit (21 : Int32) 21 rfl h34_21; have g22 := ne_lit (22 : Int32) 22 rfl h34_22; have g23 := ne_lit (23 : Int32) 23 rfl h34_23; omega)).trans rfl) ?_
          refine y_st rfl rfl rfl rfl rfl (fun _ _ => rfl) ?_
          refine y_st rfl rfl rfl rfl rfl (fun _ _ => rfl) ?_
          show yP (xg xs) (d + 1) 363 350 [(4, .int (0 : Int32)), (3, .int (0 : Int32)), (0, .int n), (1, .int x), (2, .int y)] [.int y, .int x] m _
          refine y_ile (t := 357) rfl rfl rfl (fun h350 => ?_) (fun h350 => ?_)
          · refine y_st rfl rfl rfl rfl rfl (fun _ _ => rfl) ?_
            show yP (xg xs) (d + 1) 363 358 [(4, .int (0 : Int32)), (3, .int (0 : Int32)), (0, .int n), (1, .int x), (2, .int y)] [.int y] m _
            exact y_iret rfl rfl rfl (by refine ⟨congrArg (fun z => some (Value.int z)) ?_, rfl⟩; unfold two_ cmp_ shf_ shl_; grind)
          · refine y_st rfl rfl rfl rfl rfl (fun _ _ => rfl) ?_
            refine y_st rfl rfl rfl rfl rfl (fun _ _ => rfl) ?_
            show yP (xg xs) (d + 1) 363 358 [(4, .int (0 : Int32)), (3, .int (0 : Int32)), (0, .int n), (1, .int x), (2, .int y)] [.int x] m _
            exact y_iret rfl rfl rfl (by refine ⟨congrArg (fun z => some (Value.int z)) ?_, rfl⟩; unfold two_ cmp_ shf_ shl_; grind)
        · refine y_st rfl rfl rfl rfl rfl (fun _ _ => rfl) ?_
          refine y_st rfl rfl rfl rfl rfl (fun _ _ => rfl) ?_
          refine y_st rfl rfl rfl rfl rfl (fun _ _ => rfl) ?_
          refine y_st rfl rfl rfl rfl rfl (fun _ _ => rfl) ?_
          show yP (xg xs) (d + 1) 363 34 [(4, .int (1 : Int32)), (3, .int (0 : Int32)), (0, .int n), (1, .int x), (2, .int y)] [.int n] m _
          by_cases h34_0 : n = (0 : Int32)
          · refine y_tsw (t := 144) rfl rfl (by rw [h34_0]; rfl) ?_
            refine y_st rfl rfl rfl rfl rfl (fun _ _ => rfl) ?_
            refine y_st rfl rfl rfl rfl rfl (fun _ _ => rfl) ?_
            refine y_st rfl rfl rfl rfl rfl (fun _ _ => rfl) ?_
            show yP (xg xs) (d + 1) 363 147 [(4, .int (1 : Int32)), (3, .int (0 : Int32)), (0, .int n), (1, .int x), (2, .int y)] [.int (x + y)] m _
            refine y_call rfl rfl rfl rfl rfl (Nat.le_of_ble_eq_true rfl) (Nat.le_of_ble_eq_true rfl) rfl (by decide) (c362 xs d m (x + y)) (fun v26 m26 q26 => ?_)
            obtain ⟨rfl, e26⟩ := q26; rw [e26]; clear e26
            show yP (xg xs) (d + 1) 363 150 [(4, .int (1 : Int32)), (3, .int (0 : Int32)), (0, .int n), (1, .int x), (2, .int y)] [.int (w16 (x + y))] m _
            exact y_iret rfl rfl rfl (by refine ⟨congrArg (fun z => some (Value.int z)) ?_, rfl⟩; unfold two_ cmp_ shf_ shl_; grind)
          by_cases h34_1 : n = (1 : Int32)
          · refine y_tsw (t := 151) rfl rfl (by rw [h34_1]; rfl) ?_
            refine y_st rfl rfl rfl rfl rfl (fun _ _ => rfl) ?_
            refine y_st rfl rfl rfl rfl rfl (fun _ _ => rfl) ?_
            refine y_st rfl rfl rfl rfl rfl (fun _ _ => rfl) ?_
            show yP (xg xs) (d + 1) 363 154 [(4, .int (1 : Int32)), (3, .int (0 : Int32)), (0, .int n), (1, .int x), (2, .int y)] [.int (x - y)] m _
            refine y_call rfl rfl rfl rfl rfl (Nat.le_of_ble_eq_true rfl) (Nat.le_of_ble_eq_true rfl) rfl (by decide) (c362 xs d m (x - y)) (fun v27 m27 q27 => ?_)
            obtain ⟨rfl, e27⟩ := q27; rw [e27]; clear e27
            show yP (xg xs) (d + 1) 363 157 [(4, .int (1 : Int32)), (3, .int (0 : Int32)), (0, .int n), (1, .int x), (2, .int y)] [.int (w16 (x - y))] m _
            exact y_iret rfl rfl rfl (by refine ⟨congrArg (fun z => some (Value.int z)) ?_, rfl⟩; unfold two_ cmp_ shf_ shl_; grind)
          by_cases h34_2 : n = (2 : Int32)
          · refine y_tsw (t := 158) rfl rfl (by rw [h34_2]; rfl) ?_
            refine y_st rfl rfl rfl rfl rfl (fun _ _ => rfl) ?_
            refine y_st rfl rfl rfl rfl rfl (fun _ _ => rfl) ?_
            refine y_st rfl rfl rfl rfl rfl (fun _ _ => rfl) ?_
            show yP (xg xs) (d + 1) 363 161 [(4, .int (1 : Int32)), (3, .int (0 : Int32)), (0, .int n), (1, .int x), (2, .int y)] [.int (x * y)] m _
            refine y_call rfl rfl rfl rfl rfl (Nat.le_of_ble_eq_true rfl) (Nat.le_of_ble_eq_true rfl) rfl (by decide) (c362 xs d m (x * y)) (fun v28 m28 q28 => ?_)
            obtain ⟨rfl, e28⟩ := q28; rw [e28]; clear e28
            show yP (xg xs) (d + 1) 363 164 [(4, .int (1 : Int32)), (3, .int (0 : Int32)), (0, .int n), (1, .int x), (2, .int y)] [.int (w16 (x * y))] m _
            exact y_iret rfl rfl rfl (by refine ⟨congrArg (fun z => some (Value.int z)) ?_, rfl⟩; unfold two_ cmp_ shf_ shl_; grind)
          by_cases h34_3 : n = (3 : Int32)
          · refine y_tsw (t := 165) rfl rfl (by rw [h34_3]; rfl) ?_
            refine y_st rfl rfl rfl rfl rfl (fun _ _ => rfl) ?_
            refine y_st rfl rfl rfl rfl rfl (fun _ _ => rfl) ?_
            show yP (xg xs) (d + 1) 363 167 [(4, .int (1 : Int32)), (3, .int (0 : Int32)), (0, .int n), (1, .int x), (2, .int y)] [.int y, .int x] m _
            refine y_idiv rfl rfl (by grind) ?_
            show yP (xg xs) (d + 1) 363 168 [(4, .int (1 : Int32)), (3, .int (0 : Int32)), (0, .int n), (1, .int x), (2, .int y)] [.int (x / y)] m _
            refine y_call rfl rfl rfl rfl rfl (Nat.le_of_ble_eq_true rfl) (Nat.le_of_ble_eq_true rfl) rfl (by decide) (c362 xs d m (x / y)) (fun v29 m29 q29 => ?_)
            obtain ⟨rfl, e29⟩ := q29; rw [e29]; clear e29
            show yP (xg xs) (d + 1) 363 171 [(4, .int (1 : Int32)), (3, .int (0 : Int32)), (0, .int n), (1, .int x), (2, .int y)] [.int (w16 (x / y))] m _
            exact y_iret rfl rfl rfl (by refine ⟨congrArg (fun z => some (Value.int z)) ?_, rfl⟩; unfold two_ cmp_ shf_ shl_; grind)
          by_cases h34_4 : n = (4 : Int32)
          · refine y_tsw (t := 172) rfl rfl (by rw [h34_4]; rfl) ?_
            refine y_st rfl rfl rfl rfl rfl (fun _ _ => rfl) ?_
            refine y_st rfl rfl rfl rfl rfl (fun _ _ => rfl) ?_
            show yP (xg xs) (d + 1) 363 174 [(4, .int (1 : Int32)), (3, .int (0 : Int32)), (0, .int n), (1, .int x), (2, .int y)] [.int y, .int x] m _
            refine y_irem rfl rfl (by grind) ?_
            show yP (xg xs) (d + 1) 363 175 [(4, .int (1 : Int32)), (3, .int (0 : Int32)), (0, .int n), (1, .int x), (2, .int y)] [.int (x - x / y * y)] m _
            refine y_call rfl rfl rfl rfl rfl (Nat.le_of_ble_eq_true rfl) (Nat.le_of_ble_eq_true rfl) rfl (by decide) (c362 xs d m (x - x / y * y)) (fun v30 m30 q30 => ?_)
            obtain ⟨rfl, e30⟩ := q30; rw [e30]; clear e30
            show yP (xg xs) (d + 1) 363 178 [(4, .int (1 : Int32)), (3, .int (0 : Int32)), (0, .int n), (1, .int x), (2, .int y)] [.int (w16 (x - x / y * y))] m _
            exact y_iret rfl rfl rfl (by refine ⟨congrArg (fun z => some (Value.int z)) ?_, rfl⟩; unfold two_ cmp_ shf_ shl_; grind)
          by_cases h34_5 : n = (5 : Int32)
          · refine y_tsw (t := 179) rfl rfl (by rw [h34_5]; rfl) ?_
            refine y_st rfl rfl rfl rfl rfl (fun _ _ => rfl) ?_
            refine y_st rfl rfl rfl rfl rfl (fun _ _ => rfl) ?_
            refine y_st rfl rfl rfl rfl rfl (fun _ _ => rfl) ?_
            show yP (xg xs) (d + 1) 363 182 [(4, .int (1 : Int32)), (3, .int (0 : Int32)), (0, .int n), (1, .int x), (2, .int y)] [.int (x + y)] m _
            exact y_iret rfl rfl rfl (by refine ⟨congrArg (fun z => some (Value.int z)) ?_, rfl⟩; unfold two_ cmp_ shf_ shl_; grind)
          by_cases h34_6 : n = (6 : Int32)
          · refine y_tsw (t := 183) rfl rfl (by rw [h34_6]; rfl) ?_
            refine y_st rfl rfl rfl rfl rfl (fun _ _ => rfl) ?_
            refine y_st rfl rfl rfl rfl rfl (fun _ _ => rfl) ?_
            refine y_st rfl rfl rfl rfl rfl (fun _ _ => rfl) ?_
            show yP (xg xs) (d + 1) 363 186 [(4, .int (1 : Int32)), (3, .int (0 : Int32)), (0, .int n), (1, .int x), (2, .int y)] [.int (x - y)] m _
            exact y_iret rfl rfl rfl (by refine ⟨congrArg (fun z => some (Value.int z)) ?_, rfl⟩; unfold two_ cmp_ shf_ shl_; grind)
          by_cases h34_7 : n = (7 : Int32)
          · refine y_tsw (t := 187) rfl rfl (by rw [h34_7]; rfl) ?_
            refine y_st rfl rfl rfl rfl rfl (fun _ _ => rfl) ?_
            refine y_st rfl rfl rfl rfl rfl (fun _ _ => rfl) ?_
            refine y_st rfl rfl rfl rfl rfl (fun _ _ => rfl) ?_
            show yP (xg xs) (d + 1) 363 190 [(4, .int (1 : Int32)), (3, .int (0 : Int32)), (0, .int n), (1, .int x), (2, .int y)] [.int (x * y)] m _
            exact y_iret rfl rfl rfl (by refine ⟨congrArg (fun z => some (Value.int z)) ?_, rfl⟩; unfold two_ cmp_ shf_ shl_; grind)
          by_cases h34_8 : n = (8 : Int32)
          · refine y_tsw (t := 191) rfl rfl (by rw [h34_8]; rfl) ?_
            refine y_st rfl rfl rfl rfl rfl (fun _ _ => rfl) ?_
            refine y_st rfl rfl rfl rfl rfl (fun _ _ => rfl) ?_
            show yP (xg xs) (d + 1) 363 193 [(4, .int (1 : Int32)), (3, .int (0 : Int32)), (0, .int n), (1, .int x), (2, .int y)] [.int y, .int x] m _
            refine y_idiv rfl rfl (by grind) ?_
            show yP (xg xs) (d + 1) 363 194 [(4, .int (1 : Int32)), (3, .int (0 : Int32)), (0, .int n), (1, .int x), (2, .int y)] [.int (x / y)] m _
            exact y_iret rfl rfl rfl (by refine ⟨congrArg (fun z => some (Value.int z)) ?_, rfl⟩; unfold two_ cmp_ shf_ shl_; grind)
          by_cases h34_9 : n = (9 : Int32)
          · refine y_tsw (t := 195) rfl rfl (by rw [h34_9]; rfl) ?_
            refine y_st rfl rfl rfl rfl rfl (fun _ _ => rfl) ?_
            refine y_st rfl rfl rfl rfl rfl (fun _ _ => rfl) ?_
            show yP (xg xs) (d + 1) 363 197 [(4, .int (1 : Int32)), (3, .int (0 : Int32)), (0, .int n), (1, .int x), (2, .int y)] [.int y, .int x] m _
            refine y_irem rfl rfl (by grind) ?_
            show yP (xg xs) (d + 1) 363 198 [(4, .int (1 : Int32)), (3, .int (0 : Int32)), (0, .int n), (1, .int x), (2, .int y)] [.int (x - x / y * y)] m _
            exact y_iret rfl rfl rfl (by refine ⟨congrArg (fun z => some (Value.int z)) ?_, rfl⟩; unfold two_ cmp_ shf_ shl_; grind)
          by_cases h34_10 : n = (10 : Int32)
          · refine y_tsw (t := 199) rfl rfl (by rw [h34_10]; rfl) ?_
            refine y_st rfl rfl rfl rfl rfl (fun _ _ => rfl) ?_
            refine y_st rfl rfl rfl rfl rfl (fun _ _ => rfl) ?_
            refine y_st rfl rfl rfl rfl rfl (fun _ _ => rfl) ?_
            show yP (xg xs) (d + 1) 363 202 [(4, .int (1 : Int32)), (3, .int (0 : Int32)), (0, .int n), (1, .int x), (2, .int y)] [.int (x &&& y)] m _
            exact y_iret rfl rfl rfl (by refine ⟨congrArg (fun z => some (Value.int z)) ?_, rfl⟩; unfold two_ cmp_ shf_ shl_; grind)
          by_cases h34_11 : n = (11 : Int32)
          · refine y_tsw (t := 203) rfl rfl (by rw [h34_11]; rfl) ?_
            refine y_st rfl rfl rfl rfl rfl (fun _ _ => rfl) ?_
            refine y_st rfl rfl rfl rfl rfl (fun _ _ => rfl) ?_
            refine y_st rfl rfl rfl rfl rfl (fun _ _ => rfl) ?_
            show yP (xg xs) (d + 1) 363 206 [(4, .int (1 : Int32)), (3, .int (0 : Int32)), (0, .int n), (1, .int x), (2, .int y)] [.int (x ||| y)] m _
            exact y_iret rfl rfl rfl (by refine ⟨congrArg (fun z => some (Value.int z)) ?_, rfl⟩; unfold two_ cmp_ shf_ shl_; grind)
          by_cases h34_12 : n = (12 : Int32)
          · refine y_tsw (t := 207) rfl rfl (by rw [h34_12]; rfl) ?_
            refine y_st rfl rfl rfl rfl rfl (fun _ _ => rfl) ?_
            refine y_st rfl rfl rfl rfl rfl (fun _ _ => rfl) ?_
            refine y_st rfl rfl rfl rfl rfl (fun _ _ => rfl) ?_
            show yP (xg xs) (d + 1) 363 210 [(4, .int (1 : Int32)), (3, .int (0 : Int32)), (0, .int n), (1, .int x), (2, .int y)] [.int (x ^^^ y)] m _
            exact y_iret rfl rfl rfl (by refine ⟨congrArg (fun z => some (Value.int z)) ?_, rfl⟩; unfold two_ cmp_ shf_ shl_; grind)
          by_cases h34_13 : n = (13 : Int32)
          · refine y_tsw (t := 211) rfl rfl (by rw [h34_13]; rfl) ?_
            refine y_st rfl rfl rfl rfl rfl (fun _ _ => rfl) ?_
            refine y_st rfl rfl rfl rfl rfl (fun _ _ => rfl) ?_
            show yP (xg xs) (d + 1) 363 213 [(4, .int (1 : Int32)), (3, .int (0 : Int32)), (0, .int n), (1, .int x), (2, .int y)] [.int y, .int x] m _
            refine y_ine (t := 220) rfl rfl rfl (fun h213 => ?_) (fun h213 => ?_)
            · refine y_st rfl rfl rfl rfl rfl (fun _ _ => rfl) ?_
              show yP (xg xs) (d + 1) 363 221 [(4, .int (1 : Int32)), (3, .int (0 : Int32)), (0, .int n), (1, .int x), (2, .int y)] [.int (0 : Int32)] m _
              exact y_iret rfl rfl rfl (by refine ⟨congrArg (fun z => some (Value.int z)) ?_, rfl⟩; unfold two_ cmp_ shf_ shl_; grind)
            · refine y_st rfl rfl rfl rfl rfl (fun _ _ => rfl) ?_
              refine y_st rfl rfl rfl rfl rfl (fun _ _ => rfl) ?_
              show yP (xg xs) (d + 1) 363 221 [(4, .int (1 : Int32)), (3, .int (0 : Int32)), (0, .int n), (1, .int x), (2, .int y)] [.int (1 : Int32)] m _
              exact y_iret rfl rfl rfl (by refine ⟨congrArg (fun z => some (Value.int z)) ?_, rfl⟩; unfold two_ cmp_ shf_ shl_; grind)
          by_cases h34_14 : n = (14 : Int32)
          · refine y_tsw (t := 222) rfl rfl (by rw [h34_14]; rfl) ?_
            refine y_st rfl rfl rfl rfl rfl (fun _ _ => rfl) ?_
            refine y_st rfl rfl rfl rfl rfl (fun _ _ => rfl) ?_
            show yP (xg xs) (d + 1) 363 224 [(4, .int (1 : Int32)), (3, .int (0 : Int32)), (0, .int n), (1, .int x), (2, .int y)] [.int y, .int x] m _
            refine y_ieq (t := 231) rfl rfl rfl (fun h224 => ?_) (fun h224 => ?_)
            · refine y_st rfl rfl rfl rfl rfl (fun _ _ => rfl) ?_
              show yP (xg xs) (d + 1) 363 232 [(4, .int (1 : Int32)), (3, .int (0 : Int32)), (0, .int n), (1, .int x), (2, .int y)] [.int (0 : Int32)] m _
              exact y_iret rfl rfl rfl (by refine ⟨congrArg (fun z => some (Value.int z)) ?_, rfl⟩; unfold two_ cmp_ shf_ shl_; grind)
            · refine y_st rfl rfl rfl rfl rfl (fun _ _ => rfl) ?_
              refine y_st rfl rfl rfl rfl rfl (fun _ _ => rfl) ?_
              show yP (xg xs) (d + 1) 363 232 [(4, .int (1 : Int32)), (3, .int (0 : Int32)), (0, .int n), (1, .int x), (2, .int y)] [.int (1 : Int32)] m _
              exact y_iret rfl rfl rfl (by refine ⟨congrArg (fun z => some (Value.int z)) ?_, rfl⟩; unfold two_ cmp_ shf_ shl_; grind)
          by_cases h34_15 : n = (15 : Int32)
          · refine y_tsw (t := 233) rfl rfl (by rw [h34_15]; rfl) ?_
            refine y_st rfl rfl rfl rfl rfl (fun _ _ => rfl) ?_
            refine y_st rfl rfl rfl rfl rfl (fun _ _ => rfl) ?_
            show yP (xg xs) (d + 1) 363 235 [(4, .int (1 : Int32)), (3, .int (0 : Int32)), (0, .int n), (1, .int x), (2, .int y)] [.int y, .int x] m _
            refine y_ige (t := 242) rfl rfl rfl (fun h235 => ?_) (fun h235 => ?_)
            · refine y_st rfl rfl rfl rfl rfl (fun _ _ => rfl) ?_
              show yP (xg xs) (d + 1) 363 243 [(4, .int (1 : Int32)), (3, .int (0 : Int32)), (0, .int n), (1, .int x), (2, .int y)] [.int (0 : Int32)] m _
              exact y_iret rfl rfl rfl (by refine ⟨congrArg (fun z => some (Value.int z)) ?_, rfl⟩; unfold two_ cmp_ shf_ shl_; grind)
            · refine y_st rfl rfl rfl rfl rfl (fun _ _ => rfl) ?_
              refine y_st rfl rfl rfl rfl rfl (fun _ _ => rfl) ?_
              show yP (xg xs) (d + 1) 363 243 [(4, .int (1 : Int32)), (3, .int (0 : Int32)), (0, .int n), (1, .int x), (2, .int y)] [.int (1 : Int32)] m _
              exact y_iret rfl rfl rfl (by refine ⟨congrArg (fun z => some (Value.int z)) ?_, rfl⟩; unfold two_ cmp_ shf_ shl_; grind)
          by_cases h34_16 : n = (16 : Int32)
          · refine y_tsw (t := 244) rfl rfl (by rw [h34_16]; rfl) ?_
            refine y_st rfl rfl rfl rfl rfl (fun _ _ => rfl) ?_
            refine y_st rfl rfl rfl rfl rfl (fun _ _ => rfl) ?_
            show yP (xg xs) (d + 1) 363 246 [(4, .int (1 : Int32)), (3, .int (0 : Int32)), (0, .int n), (1, .int x), (2, .int y)] [.int y, .int x] m _
            refine y_ile (t := 253) rfl rfl rfl (fun h246 => ?_) (fun h246 => ?_)
            · refine y_st rfl rfl rfl rfl rfl (fun _ _ => rfl) ?_
              show yP (xg xs) (d + 1) 363 254 [(4, .int (1 : Int32)), (3, .int (0 : Int32)), (0, .int n), (1, .int x), (2, .int y)] [.int (0 : Int32)] m _
              exact y_iret rfl rfl rfl (by refine ⟨congrArg (fun z => some (Value.int z)) ?_, rfl⟩; unfold two_ cmp_ shf_ shl_; grind)
            · refine y_st rfl rfl rfl rfl rfl (fun _ _ => rfl) ?_
              refine y_st rfl rfl rfl rfl rfl (fun _ _ => rfl) ?_
              show yP (xg xs) (d + 1) 363 254 [(4, .int (1 : Int32)), (3, .int (0 : Int32)), (0, .int n), (1, .int x), (2, .int y)] [.int (1 : Int32)] m _
              exact y_iret rfl rfl rfl (by refine ⟨congrArg (fun z => some (Value.int z)) ?_, rfl⟩; unfold two_ cmp_ shf_ shl_; grind)
          by_cases h34_17 : n = (17 : Int32)
          · refine y_tsw (t := 255) rfl rfl (by rw [h34_17]; rfl) ?_
            refine y_st rfl rfl rfl rfl rfl (fun _ _ => rfl) ?_
            refine y_st rfl rfl rfl rfl rfl (fun _ _ => rfl) ?_
            show yP (xg xs) (d + 1) 363 257 [(4, .int (1 : Int32)), (3, .int (0 : Int32)), (0, .int n), (1, .int x), (2, .int y)] [.int y, .int x] m _
            refine y_igt (t := 264) rfl rfl rfl (fun h257 => ?_) (fun h257 => ?_)
            · refine y_st rfl rfl rfl rfl rfl (fun _ _ => rfl) ?_
              show yP (xg xs) (d + 1) 363 265 [(4, .int (1 : Int32)), (3, .int (0 : Int32)), (0, .int n), (1, .int x), (2, .int y)] [.int (0 : Int32)] m _
              exact y_iret rfl rfl rfl (by refine ⟨congrArg (fun z => some (Value.int z)) ?_, rfl⟩; unfold two_ cmp_ shf_ shl_; grind)
            · refine y_st rfl rfl rfl rfl rfl (fun _ _ => rfl) ?_
              refine y_st rfl rfl rfl rfl rfl (fun _ _ => rfl) ?_
              show yP (xg xs) (d + 1) 363 265 [(4, .int (1 : Int32)), (3, .int (0 : Int32)), (0, .int n), (1, .int x), (2, .int y)] [.int (1 : Int32)] m _
              exact y_iret rfl rfl rfl (by refine ⟨congrArg (fun z => some (Value.int z)) ?_, rfl⟩; unfold two_ cmp_ shf_ shl_; grind)
          by_cases h34_18 : n = (18 : Int32)
          · refine y_tsw (t := 266) rfl rfl (by rw [h34_18]; rfl) ?_
            refine y_st rfl rfl rfl rfl rfl (fun _ _ => rfl) ?_
            refine y_st rfl rfl rfl rfl rfl (fun _ _ => rfl) ?_
            show yP (xg xs) (d + 1) 363 268 [(4, .int (1 : Int32)), (3, .int (0 : Int32)), (0, .int n), (1, .int x), (2, .int y)] [.int y, .int x] m _
            refine y_ilt (t := 275) rfl rfl rfl (fun h268 => ?_) (fun h268 => ?_)
            · refine y_st rfl rfl rfl rfl rfl (fun _ _ => rfl) ?_
              show yP (xg xs) (d + 1) 363 276 [(4, .int (1 : Int32)), (3, .int (0 : Int32)), (0, .int n), (1, .int x), (2, .int y)] [.int (0 : Int32)] m _
              exact y_iret rfl rfl rfl (by refine ⟨congrArg (fun z => some (Value.int z)) ?_, rfl⟩; unfold two_ cmp_ shf_ shl_; grind)
            · refine y_st rfl rfl rfl rfl rfl (fun _ _ => rfl) ?_
              refine y_st rfl rfl rfl rfl rfl (fun _ _ => rfl) ?_
              show yP (xg xs) (d + 1) 363 276 [(4, .int (1 : Int32)), (3, .int (0 : Int32)), (0, .int n), (1, .int x), (2, .int y)] [.int (1 : Int32)] m _
              exact y_iret rfl rfl rfl (by refine ⟨congrArg (fun z => some (Value.int z)) ?_, rfl⟩; unfold two_ cmp_ shf_ shl_; grind)
          by_cases h34_19 : n = (19 : Int32)
          · refine y_tsw (t := 277) rfl rfl (by rw [h34_19]; rfl) ?_
            refine y_st rfl rfl rfl rfl rfl (fun _ _ => rfl) ?_
            show yP (xg xs) (d + 1) 363 278 [(4, .int (1 : Int32)), (3, .int (0 : Int32)), (0, .int n), (1, .int x), (2, .int y)] [.int (0 : Int32)] m _
            refine y_zeq (t := 290) rfl rfl rfl (fun h278 => ?_) (fun h278 => ?_)
            · refine y_st rfl rfl rfl rfl rfl (fun _ _ => rfl) ?_
              show yP (xg xs) (d + 1) 363 291 [(4, .int (1 : Int32)), (3, .int (0 : Int32)), (0, .int n), (1, .int x), (2, .int y)] [.int (0 : Int32)] m _
              exact y_iret rfl rfl rfl (by refine ⟨congrArg (fun z => some (Value.int z)) ?_, rfl⟩; unfold two_ cmp_ shf_ shl_; grind)
            · exact absurd h278 (by decide)
          by_cases h34_20 : n = (20 : Int32)
          · refine y_tsw (t := 292) rfl rfl (by rw [h34_20]; rfl) ?_
            refine y_st rfl rfl rfl rfl rfl (fun _ _ => rfl) ?_
            show yP (xg xs) (d + 1) 363 293 [(4, .int (1 : Int32)), (3, .int (0 : Int32)), (0, .int n), (1, .int x), (2, .int y)] [.int (0 : Int32)] m _
            refine y_zeq (t := 309) rfl rfl rfl (fun h293 => ?_) (fun h293 => ?_)
            · refine y_st rfl rfl rfl rfl rfl (fun _ _ => rfl) ?_
              show yP (xg xs) (d + 1) 363 310 [(4, .int (1 : Int32)), (3, .int (0 : Int32)), (0, .int n), (1, .int x), (2, .int y)] [.int (0 : Int32)] m _
              exact y_iret rfl rfl rfl (by refine ⟨congrArg (fun z => some (Value.int z)) ?_, rfl⟩; unfold two_ cmp_ shf_ shl_; grind)
            · exact absurd h293 (by decide)
          by_cases h34_21 : n = (21 : Int32)
          · refine y_tsw (t := 311) rfl rfl (by rw [h34_21]; rfl) ?_
            refine y_st rfl rfl rfl rfl rfl (fun _ _ => rfl) ?_
            show yP (xg xs) (d + 1) 363 313 [(4, .int (1 : Int32)), (3, .int (0 : Int32)), (0, .int n), (1, .int x), (2, .int y)] [.int (1 : Int32)] m _
            refine y_zeq (t := 322) rfl rfl rfl (fun h313 => ?_) (fun h313 => ?_)
            · exact absurd h313 (by decide)
            · refine y_st rfl rfl rfl rfl rfl (fun _ _ => rfl) ?_
              refine y_st rfl rfl rfl rfl rfl (fun _ _ => rfl) ?_
              refine y_st rfl rfl rfl rfl rfl (fun _ _ => rfl) ?_
              refine y_st rfl rfl rfl rfl rfl (fun _ _ => rfl) ?_
              show yP (xg xs) (d + 1) 363 323 [(4, .int (1 : Int32)), (3, .int (0 : Int32)), (0, .int n), (1, .int x), (2, .int y)] [.int (x <<< (y &&& 31))] m _
              exact y_iret rfl rfl rfl (by refine ⟨congrArg (fun z => some (Value.int z)) ?_, rfl⟩; unfold two_ cmp_ shf_ shl_; grind)
          by_cases h34_22 : n = (22 : Int32)
          · refine y_tsw (t := 324) rfl rfl (by rw [h34_22]; rfl) ?_
            refine y_st rfl rfl rfl rfl rfl (fun _ _ => rfl) ?_
            show yP (xg xs) (d + 1) 363 326 [(4, .int (1 : Int32)), (3, .int (0 : Int32)), (0, .int n), (1, .int x), (2, .int y)] [.int (1 : Int32)] m _
            refine y_zeq (t := 335) rfl rfl rfl (fun h326 => ?_) (fun h326 => ?_)
            · exact absurd h326 (by decide)
            · refine y_st rfl rfl rfl rfl rfl (fun _ _ => rfl) ?_
              refine y_st rfl rfl rfl rfl rfl (fun _ _ => rfl) ?_
              refine y_st rfl rfl rfl rfl rfl (fun _ _ => rfl) ?_
              refine y_st rfl rfl rfl rfl rfl (fun _ _ => rfl) ?_
              show yP (xg xs) (d + 1) 363 336 [(4, .int (1 : Int32)), (3, .int (0 : Int32)), (0, .int n), (1, .int x), (2, .int y)] [.int ((x.toUInt32 >>> (y.toUInt32 &&& Int32.toUInt32 31)).toInt32)] m _
              exact y_iret rfl rfl rfl (by refine ⟨congrArg (fun z => some (Value.int z)) ?_, rfl⟩; unfold two_ cmp_ shf_ shl_; grind)
          by_cases h34_23 : n = (23 : Int32)
          · refine y_tsw (t := 337) rfl rfl (by rw [h34_23]; rfl) ?_
            refine y_st rfl rfl rfl rfl rfl (fun _ _ => rfl) ?_
            refine y_st rfl rfl rfl rfl rfl (fun _ _ => rfl) ?_
            show yP (xg xs) (d + 1) 363 339 [(4, .int (1 : Int32)), (3, .int (0 : Int32)), (0, .int n), (1, .int x), (2, .int y)] [.int y, .int x] m _
            refine y_ige (t := 346) rfl rfl rfl (fun h339 => ?_) (fun h339 => ?_)
            · refine y_st rfl rfl rfl rfl rfl (fun _ _ => rfl) ?_
              show yP (xg xs) (d + 1) 363 347 [(4, .int (1 : Int32)), (3, .int (0 : Int32)), (0, .int n), (1, .int x), (2, .int y)] [.int y] m _
              exact y_iret rfl rfl rfl (by refine ⟨congrArg (fun z => some (Value.int z)) ?_, rfl⟩; unfold two_ cmp_ shf_ shl_; grind)
            · refine y_st rfl rfl rfl rfl rfl (fun _ _ => rfl) ?_
              refine y_st rfl rfl rfl rfl rfl (fun _ _ => rfl) ?_
              show yP (xg xs) (d + 1) 363 347 [(4, .int (1 : Int32)), (3, .int (0 : Int32)), (0, .int n), (1, .int x), (2, .int y)] [.int x] m _
              exact y_iret rfl rfl rfl (by refine ⟨congrArg (fun z => some (Value.int z)) ?_, rfl⟩; unfold two_ cmp_ shf_ shl_; grind)
          refine y_tsw (t := 348) rfl rfl ((if_pos (by have g0 := ne_lit (0 : Int32) 0 rfl h34_0; have g1 := ne_lit (1 : Int32) 1 rfl h34_1; have g2 := ne_lit (2 : Int32) 2 rfl h34_2; have g3 := ne_lit (3 : Int32) 3 rfl h34_3; have g4 := ne_lit (4 : Int32) 4 rfl h34_4; have g5 := ne_lit (5 : Int32) 5 rfl h34_5; have g6 := ne_lit (6 : Int32) 6 rfl h34_6; have g7 := ne_lit (7 : Int32) 7 rfl h34_7; have g8 := ne_lit (8 : Int32) 8 rfl h34_8; have g9 := ne_lit (9 : Int32) 9 rfl h34_9; have g10 := ne_lit (10 : Int32) 10 rfl h34_10; have g11 := ne_lit (11 : Int32) 11 rfl h34_11; have g12 := ne_lit (12 : Int32) 12 rfl h34_12; have g13 := ne_lit (13 : Int32) 13 rfl h34_13; have g14 := ne_lit (14 : Int32) 14 rfl h34_14; have g15 := ne_lit (15 : Int32) 15 rfl h34_15; have g16 := ne_lit (16 : Int32) 16 rfl h34_16; have g17 := ne_lit (17 : Int32) 17 rfl h34_17; have g18 := ne_lit (18 : Int32) 18 rfl h34_18; have g19 := ne_lit (19 : Int32) 19 rfl h34_19; have g20 := ne_lit (20 : Int32) 20 rfl h34_20; have g21 := ne_lit (21 : Int32) 21 rfl h34_21; have g22 := ne_lit (22 : Int32) 22 rfl h34_22; have g23 := ne_lit (23 : Int32) 23 rfl h34_23; omega)).trans rfl) ?_
          refine y_st rfl rfl rfl rfl rfl (fun _ _ => rfl) ?_
          refine y_st rfl rfl rfl rfl rfl (fun _ _ => rfl) ?_
          show yP (xg xs) (d + 1) 363 350 [(4, .int (1 : Int32)), (3, .int (0 : Int32)), (0, .int n), (1, .int x), (2, .int y)] [.int y, .int x] m _
          refine y_ile (t := 357) rfl rfl rfl (fun h350 => ?_) (fun h350 => ?_)
          · refine y_st rfl rfl rfl rfl rfl (fun _ _ => rfl) ?_
            show yP (xg xs) (d + 1) 363 358 [(4, .int (1 : Int32)), (3, .int (0 : Int32)), (0, .int n), (1, .int x), (2, .int y)] [.int y] m _
            exact y_iret rfl rfl rfl (by refine ⟨congrArg (fun z => some (Value.int z)) ?_, rfl⟩; unfold two_ cmp_ shf_ shl_; grind)
          · refine y_st rfl rfl rfl rfl rfl (fun _ _ => rfl) ?_
            refine y_st rfl rfl rfl rfl rfl (fun _ _ => rfl) ?_
            show yP (xg xs) (d + 1) 363 358 [(4, .int (1 : Int32)), (3, .int (0 : Int32)), (0, .int n), (1, .int x), (2, .int y)] [.int x] m _
            exact y_iret rfl rfl rfl (by refine ⟨congrArg (fun z => some (Value.int z)) ?_, rfl⟩; unfold two_ cmp_ shf_ shl_; grind)
    · refine y_st rfl rfl rfl rfl rfl (fun _ _ => rfl) ?_
      refine y_st rfl rfl rfl rfl rfl (fun _ _ => rfl) ?_
      refine y_st rfl rfl rfl rfl rfl (fun _ _ => rfl) ?_
      refine y_st rfl rfl rfl rfl rfl (fun _ _ => rfl) ?_
      show yP (xg xs) (d + 1) 363 17 [(3, .int (1 : Int32)), (0, .int n), (1, .int x), (2, .int y)] [.int y] m _
      refine y_zlt (t := 30) rfl rfl rfl (fun h17 => ?_) (fun h17 => ?_)
      · refine y_st rfl rfl rfl rfl rfl (fun _ _ => rfl) ?_
        refine y_st rfl rfl rfl rfl rfl (fun _ _ => rfl) ?_
        refine y_st rfl rfl rfl rfl rfl (fun _ _ => rfl) ?_
        show yP (xg xs) (d + 1) 363 34 [(4, .int (0 : Int32)), (3, .int (1 : Int32)), (0, .int n), (1, .int x), (2, .int y)] [.int n] m _
        by_cases h34_0 : n = (0 : Int32)
        · refine y_tsw (t := 144) rfl rfl (by rw [h34_0]; rfl) ?_
          refine y_st rfl rfl rfl rfl rfl (fun _ _ => rfl) ?_
          refine y_st rfl rfl rfl rfl rfl (fun _ _ => rfl) ?_
          refine y_st rfl rfl rfl rfl rfl (fun _ _ => rfl) ?_
          show yP (xg xs) (d + 1) 363 147 [(4, .int (0 : Int32)), (3, .int (1 : Int32)), (0, .int n), (1, .int x), (2, .int y)] [.int (x + y)] m _
          refine y_call rfl rfl rfl rfl rfl (Nat.le_of_ble_eq_true rfl) (Nat.le_of_ble_eq_true rfl) rfl (by decide) (c362 xs d m (x + y)) (fun v31 m31 q31 => ?_)
          obtain ⟨rfl, e31⟩ := q31; rw [e31]; clear e31
          show yP (xg xs) (d + 1) 363 150 [(4, .int (0 : Int32)), (3, .int (1 : Int32)), (0, .int n), (1, .int x), (2, .int y)] [.int (w16 (x + y))] m _
          exact y_iret rfl rfl rfl (by refine ⟨congrArg (fun z => some (Value.int z)) ?_, rfl⟩; unfold two_ cmp_ shf_ shl_; grind)
        by_cases h34_1 : n = (1 : Int32)
        · refine y_tsw (t := 151) rfl rfl (by rw [h34_1]; rfl) ?_
          refine y_st rfl rfl rfl rfl rfl (fun _ _ => rfl) ?_
          refine y_st rfl rfl rfl rfl rfl (fun _ _ => rfl) ?_
          refine y_st rfl rfl rfl rfl rfl (fun _ _ => rfl) ?_
          show yP (xg xs) (d + 1) 363 154 [(4, .int (0 : Int32)), (3, .int (1 : Int32)), (0, .int n), (1, .int x), (2, .int y)] [.int (x - y)] m _
          refine y_call rfl rfl rfl rfl rfl (Nat.le_of_ble_eq_true rfl) (Nat.le_of_ble_eq_true rfl) rfl (by decide) (c362 xs d m (x - y)) (fun v32 m32 q32 => ?_)
          obtain ⟨rfl, e32⟩ := q32; rw [e32]; clear e32
          show yP (xg xs) (d + 1) 363 157 [(4, .int (0 : Int32)), (3, .int (1 : Int32)), (0, .int n), (1, .int x), (2, .int y)] [.int (w16 (x - y))] m _
          exact y_iret rfl rfl rfl (by refine ⟨congrArg (fun z => some (Value.int z)) ?_, rfl⟩; unfold two_ cmp_ shf_ shl_; grind)
        by_cases h34_2 : n = (2 : Int32)
        · refine y_tsw (t := 158) rfl rfl (by rw [h34_2]; rfl) ?_
          refine y_st rfl rfl rfl rfl rfl (fun _ _ => rfl) ?_
          refine y_st rfl rfl rfl rfl rfl (fun _ _ => rfl) ?_
          refine y_st rfl rfl rfl rfl rfl (fun _ _ => rfl) ?_
          show yP (xg xs) (d + 1) 363 161 [(4, .int (0 : Int32)), (3, .int (1 : Int32)), (0, .int n), (1, .int x), (2, .int y)] [.int (x * y)] m _
          refine y_call rfl rfl rfl rfl rfl (Nat.le_of_ble_eq_true rfl) (Nat.le_of_ble_eq_true rfl) rfl (by decide) (c362 xs d m (x * y)) (fun v33 m33 q33 => ?_)
          obtain ⟨rfl, e33⟩ := q33; rw [e33]; clear e33
          show yP (xg xs) (d + 1) 363 164 [(4, .int (0 : Int32)), (3, .int (1 : Int32)), (0, .int n), (1, .int x), (2, .int y)] [.int (w16 (x * y))] m _
          exact y_iret rfl rfl rfl (by refine ⟨congrArg (fun z => some (Value.int z)) ?_, rfl⟩; unfold two_ cmp_ shf_ shl_; grind)
        by_cases h34_3 : n = (3 : Int32)
        · refine y_tsw (t := 165) rfl rfl (by rw [h34_3]; rfl) ?_
          refine y_st rfl rfl rfl rfl rfl (fun _ _ => rfl) ?_
          refine y_st rfl rfl rfl rfl rfl (fun _ _ => rfl) ?_
          show yP (xg xs) (d + 1) 363 167 [(4, .int (0 : Int32)), (3, .int (1 : Int32)), (0, .int n), (1, .int x), (2, .int y)] [.int y, .int x] m _
          refine y_idiv rfl rfl (by grind) ?_
          show yP (xg xs) (d + 1) 363 168 [(4, .int (0 : Int32)), (3, .int (1 : Int32)), (0, .int n), (1, .int x), (2, .int y)] [.int (x / y)] m _
          refine y_call rfl rfl rfl rfl rfl (Nat.le_of_ble_eq_true rfl) (Nat.le_of_ble_eq_true rfl) rfl (by decide) (c362 xs d m (x / y)) (fun v34 m34 q34 => ?_)
          obtain ⟨rfl, e34⟩ := q34; rw [e34]; clear e34
          show yP (xg xs) (d + 1) 363 171 [(4, .int (0 : Int32)), (3, .int (1 : Int32)), (0, .int n), (1, .int x), (2, .int y)] [.int (w16 (x / y))] m _
          exact y_iret rfl rfl rfl (by refine ⟨congrArg (fun z => some (Value.int z)) ?_, rfl⟩; unfold two_ cmp_ shf_ shl_; grind)
        by_cases h34_4 : n = (4 : Int32)
        · refine y_tsw (t := 172) rfl rfl (by rw [h34_4]; rfl) ?_
          refine y_st rfl rfl rfl rfl rfl (fun _ _ => rfl) ?_
          refine y_st rfl rfl rfl rfl rfl (fun _ _ => rfl) ?_
          show yP (xg xs) (d + 1) 363 174 [(4, .int (0 : Int32)), (3, .int (1 : Int32)), (0, .int n), (1, .int x), (2, .int y)] [.int y, .int x] m _
          refine y_irem rfl rfl (by grind) ?_
          show yP (xg xs) (d + 1) 363 175 [(4, .int (0 : Int32)), (3, .int (1 : Int32)), (0, .int n), (1, .int x), (2, .int y)] [.int (x - x / y * y)] m _
          refine y_call rfl rfl rfl rfl rfl (Nat.le_of_ble_eq_true rfl) (Nat.le_of_ble_eq_true rfl) rfl (by decide) (c362 xs d m (x - x / y * y)) (fun v35 m35 q35 => ?_)
          obtain ⟨rfl, e35⟩ := q35; rw [e35]; clear e35
          show yP (xg xs) (d + 1) 363 178 [(4, .int (0 : Int32)), (3, .int (1 : Int32)), (0, .int n), (1, .int x), (2, .int y)] [.int (w16 (x - x / y * y))] m _
          exact y_iret rfl rfl rfl (by refine ⟨congrArg (fun z => some (Value.int z)) ?_, rfl⟩; unfold two_ cmp_ shf_ shl_; grind)
        by_cases h34_5 : n = (5 : Int32)
        · refine y_tsw (t := 179) rfl rfl (by rw [h34_5]; rfl) ?_
          refine y_st rfl rfl rfl rfl rfl (fun _ _ => rfl) ?_
          refine y_st rfl rfl rfl rfl rfl (fun _ _ => rfl) ?_
          refine y_st rfl rfl rfl rfl rfl (fun _ _ => rfl) ?_
          show yP (xg xs) (d + 1) 363 182 [(4, .int (0 : Int32)), (3, .int (1 : Int32)), (0, .int n), (1, .int x), (2, .int y)] [.int (x + y)] m _
          exact y_iret rfl rfl rfl (by refine ⟨congrArg (fun z => some (Value.int z)) ?_, rfl⟩; unfold two_ cmp_ shf_ shl_; grind)
        by_cases h34_6 : n = (6 : Int32)
        · refine y_tsw (t := 183) rfl rfl (by rw [h34_6]; rfl) ?_
          refine y_st rfl rfl rfl rfl rfl (fun _ _ => rfl) ?_
          refine y_st rfl rfl rfl rfl rfl (fun _ _ => rfl) ?_
          refine y_st rfl rfl rfl rfl rfl (fun _ _ => rfl) ?_
          show yP (xg xs) (d + 1) 363 186 [(4, .int (0 : Int32)), (3, .int (1 : Int32)), (0, .int n), (1, .int x), (2, .int y)] [.int (x - y)] m _
          exact y_iret rfl rfl rfl (by refine ⟨congrArg (fun z => some (Value.int z)) ?_, rfl⟩; unfold two_ cmp_ shf_ shl_; grind)
        by_cases h34_7 : n = (7 : Int32)
        · refine y_tsw (t := 187) rfl rfl (by rw [h34_7]; rfl) ?_
          refine y_st rfl rfl rfl rfl rfl (fun _ _ => rfl) ?_
          refine y_st rfl rfl rfl rfl rfl (fun _ _ => rfl) ?_
          refine y_st rfl rfl rfl rfl rfl (fun _ _ => rfl) ?_
          show yP (xg xs) (d + 1) 363 190 [(4, .int (0 : Int32)), (3, .int (1 : Int32)), (0, .int n), (1, .int x), (2, .int y)] [.int (x * y)] m _
          exact y_iret rfl rfl rfl (by refine ⟨congrArg (fun z => some (Value.int z)) ?_, rfl⟩; unfold two_ cmp_ shf_ shl_; grind)
        by_cases h34_8 : n = (8 : Int32)
        · refine y_tsw (t := 191) rfl rfl (by rw [h34_8]; rfl) ?_
          refine y_st rfl rfl rfl rfl rfl (fun _ _ => rfl) ?_
          refine y_st rfl rfl rfl rfl rfl (fun _ _ => rfl) ?_
          show yP (xg xs) (d + 1) 363 193 [(4, .int (0 : Int32)), (3, .int (1 : Int32)), (0, .int n), (1, .int x), (2, .int y)] [.int y, .int x] m _
          refine y_idiv rfl rfl (by grind) ?_
          show yP (xg xs) (d + 1) 363 194 [(4, .int (0 : Int32)), (3, .int (1 : Int32)), (0, .int n), (1, .int x), (2, .int y)] [.int (x / y)] m _
          exact y_iret rfl rfl rfl (by refine ⟨congrArg (fun z => some (Value.int z)) ?_, rfl⟩; unfold two_ cmp_ shf_ shl_; grind)
        by_cases h34_9 : n = (9 : Int32)
        · refine y_tsw (t := 195) rfl rfl (by rw [h34_9]; rfl) ?_
          refine y_st rfl rfl rfl rfl rfl (fun _ _ => rfl) ?_
          refine y_st rfl rfl rfl rfl rfl (fun _ _ => rfl) ?_
          show yP (xg xs) (d + 1) 363 197 [(4, .int (0 : Int32)), (3, .int (1 : Int32)), (0, .int n), (1, .int x), (2, .int y)] [.int y, .int x] m _
          refine y_irem rfl rfl (by grind) ?_
          show yP (xg xs) (d + 1) 363 198 [(4, .int (0 : Int32)), (3, .int (1 : Int32)), (0, .int n), (1, .int x), (2, .int y)] [.int (x - x / y * y)] m _
          exact y_iret rfl rfl rfl (by refine ⟨congrArg (fun z => some (Value.int z)) ?_, rfl⟩; unfold two_ cmp_ shf_ shl_; grind)
        by_cases h34_10 : n = (10 : Int32)
        · refine y_tsw (t := 199) rfl rfl (by rw [h34_10]; rfl) ?_
          refine y_st rfl rfl rfl rfl rfl (fun _ _ => rfl) ?_
          refine y_st rfl rfl rfl rfl rfl (fun _ _ => rfl) ?_
          refine y_st rfl rfl rfl rfl rfl (fun _ _ => rfl) ?_
          show yP (xg xs) (d + 1) 363 202 [(4, .int (0 : Int32)), (3, .int (1 : Int32)), (0, .int n), (1, .int x), (2, .int y)] [.int (x &&& y)] m _
          exact y_iret rfl rfl rfl (by refine ⟨congrArg (fun z => some (Value.int z)) ?_, rfl⟩; unfold two_ cmp_ shf_ shl_; grind)
        by_cases h34_11 : n = (11 : Int32)
        · refine y_tsw (t := 203) rfl rfl (by rw [h34_11]; rfl) ?_
          refine y_st rfl rfl rfl rfl rfl (fun _ _ => rfl) ?_
          refine y_st rfl rfl rfl rfl rfl (fun _ _ => rfl) ?_
          refine y_st rfl rfl rfl rfl rfl (fun _ _ => rfl) ?_
          show yP (xg xs) (d + 1) 363 206 [(4, .int (0 : Int32)), (3, .int (1 : Int32)), (0, .int n), (1, .int x), (2, .int y)] [.int (x ||| y)] m _
          exact y_iret rfl rfl rfl (by refine ⟨congrArg (fun z => some (Value.int z)) ?_, rfl⟩; unfold two_ cmp_ shf_ shl_; grind)
        by_cases h34_12 : n = (12 : Int32)
        · refine y_tsw (t := 207) rfl rfl (by rw [h34_12]; rfl) ?_
          refine y_st rfl rfl rfl rfl rfl (fun _ _ => rfl) ?_
          refine y_st rfl rfl rfl rfl rfl (fun _ _ => rfl) ?_
          refine y_st rfl rfl rfl rfl rfl (fun _ _ => rfl) ?_
          show yP (xg xs) (d + 1) 363 210 [(4, .int (0 : Int32)), (3, .int (1 : Int32)), (0, .int n), (1, .int x), (2, .int y)] [.int (x ^^^ y)] m _
          exact y_iret rfl rfl rfl (by refine ⟨congrArg (fun z => some (Value.int z)) ?_, rfl⟩; unfold two_ cmp_ shf_ shl_; grind)
        by_cases h34_13 : n = (13 : Int32)
        · refine y_tsw (t := 211) rfl rfl (by rw [h34_13]; rfl) ?_
          refine y_st rfl rfl rfl rfl rfl (fun _ _ => rfl) ?_
          refine y_st rfl rfl rfl rfl rfl (fun _ _ => rfl) ?_
          show yP (xg xs) (d + 1) 363 213 [(4, .int (0 : Int32)), (3, .int (1 : Int32)), (0, .int n), (1, .int x), (2, .int y)] [.int y, .int x] m _
          refine y_ine (t := 220) rfl rfl rfl (fun h213 => ?_) (fun h213 => ?_)
          · refine y_st rfl rfl rfl rfl rfl (fun _ _ => rfl) ?_
            show yP (xg xs) (d + 1) 363 221 [(4, .int (0 : Int32)), (3, .int (1 : Int32)), (0, .int n), (1, .int x), (2, .int y)] [.int (0 : Int32)] m _
            exact y_iret rfl rfl rfl (by refine ⟨congrArg (fun z => some (Value.int z)) ?_, rfl⟩; unfold two_ cmp_ shf_ shl_; grind)
          · refine y_st rfl rfl rfl rfl rfl (fun _ _ => rfl) ?_
            refine y_st rfl rfl rfl rfl rfl (fun _ _ => rfl) ?_
            show yP (xg xs) (d + 1) 363 221 [(4, .int (0 : Int32)), (3, .int (1 : Int32)), (0, .int n), (1, .int x), (2, .int y)] [.int (1 : Int32)] m _
            exact y_iret rfl rfl rfl (by refine ⟨congrArg (fun z => some (Value.int z)) ?_, rfl⟩; unfold two_ cmp_ shf_ shl_; grind)
        by_cases h34_14 : n = (14 : Int32)
        · refine y_tsw (t := 222) rfl rfl (by rw [h34_14]; rfl) ?_
          refine y_st rfl rfl rfl rfl rfl (fun _ _ => rfl) ?_
          refine y_st rfl rfl rfl rfl rfl (fun _ _ => rfl) ?_
          show yP (xg xs) (d + 1) 363 224 [(4, .int (0 : Int32)), (3, .int (1 : Int32)), (0, .int n), (1, .int x), (2, .int y)] [.int y, .int x] m _
          refine y_ieq (t := 231) rfl rfl rfl (fun h224 => ?_) (fun h224 => ?_)
          · refine y_st rfl rfl rfl rfl rfl (fun _ _ => rfl) ?_
            show yP (xg xs) (d + 1) 363 232 [(4, .int (0 : Int32)), (3, .int (1 : Int32)), (0, .int n), (1, .int x), (2, .int y)] [.int (0 : Int32)] m _
            exact y_iret rfl rfl rfl (by refine ⟨congrArg (fun z => some (Value.int z)) ?_, rfl⟩; unfold two_ cmp_ shf_ shl_; grind)
          · refine y_st rfl rfl rfl rfl rfl (fun _ _ => rfl) ?_
            refine y_st rfl rfl rfl rfl rfl (fun _ _ => rfl) ?_
            show yP (xg xs) (d + 1) 363 232 [(4, .int (0 : Int32)), (3, .int (1 : Int32)), (0, .int n), (1, .int x), (2, .int y)] [.int (1 : Int32)] m _
            exact y_iret rfl rfl rfl (by refine ⟨congrArg (fun z => some (Value.int z)) ?_, rfl⟩; unfold two_ cmp_ shf_ shl_; grind)
        by_cases h34_15 : n = (15 : Int32)
        · refine y_tsw (t := 233) rfl rfl (by rw [h34_15]; rfl) ?_
          refine y_st rfl rfl rfl rfl rfl (fun _ _ => rfl) ?_
          refine y_st rfl rfl rfl rfl rfl (fun _ _ => rfl) ?_
          show yP (xg xs) (d + 1) 363 235 [(4, .int (0 : Int32)), (3, .int (1 : Int32)), (0, .int n), (1, .int x), (2, .int y)] [.int y, .int x] m _
          refine y_ige (t := 242) rfl rfl rfl (fun h235 => ?_) (fun h235 => ?_)
          · refine y_st rfl rfl rfl rfl rfl (fun _ _ => rfl) ?_
            show yP (xg xs) (d + 1) 363 243 [(4, .int (0 : Int32)), (3, .int (1 : Int32)), (0, .int n), (1, .int x), (2, .int y)] [.int (0 : Int32)] m _
            exact y_iret rfl rfl rfl (by refine ⟨congrArg (fun z => some (Value.int z)) ?_, rfl⟩; unfold two_ cmp_ shf_ shl_; grind)
          · refine y_st rfl rfl rfl rfl rfl (fun _ _ => rfl) ?_
            refine y_st rfl rfl rfl rfl rfl (fun _ _ => rfl) ?_
            show yP (xg xs) (d + 1) 363 243 [(4, .int (0 : Int32)), (3, .int (1 : Int32)), (0, .int n), (1, .int x), (2, .int y)] [.int (1 : Int32)] m _
            exact y_iret rfl rfl rfl (by refine ⟨congrArg (fun z => some (Value.int z)) ?_, rfl⟩; unfold two_ cmp_ shf_ shl_; grind)
        by_cases h34_16 : n = (16 : Int32)
        · refine y_tsw (t := 244) rfl rfl (by rw [h34_16]; rfl) ?_
          refine y_st rfl rfl rfl rfl rfl (fun _ _ => rfl) ?_
          refine y_st rfl rfl rfl rfl rfl (fun _ _ => rfl) ?_
          show yP (xg xs) (d + 1) 363 246 [(4, .int (0 : Int32)), (3, .int (1 : Int32)), (0, .int n), (1, .int x), (2, .int y)] [.int y, .int x] m _
          refine y_ile (t := 253) rfl rfl rfl (fun h246 => ?_) (fun h246 => ?_)
          · refine y_st rfl rfl rfl rfl rfl (fun _ _ => rfl) ?_
            show yP (xg xs) (d + 1) 363 254 [(4, .int (0 : Int32)), (3, .int (1 : Int32)), (0, .int n), (1, .int x), (2, .int y)] [.int (0 : Int32)] m _
            exact y_iret rfl rfl rfl (by refine ⟨congrArg (fun z => some (Value.int z)) ?_, rfl⟩; unfold two_ cmp_ shf_ shl_; grind)
          · refine y_st rfl rfl rfl rfl rfl (fun _ _ => rfl) ?_
            refine y_st rfl rfl rfl rfl rfl (fun _ _ => rfl) ?_
            show yP (xg xs) (d + 1) 363 254 [(4, .int (0 : Int32)), (3, .int (1 : Int32)), (0, .int n), (1, .int x), (2, .int y)] [.int (1 : Int32)] m _
            exact y_iret rfl rfl rfl (by refine ⟨congrArg (fun z => some (Value.int z)) ?_, rfl⟩; unfold two_ cmp_ shf_ shl_; grind)
        by_cases h34_17 : n = (17 : Int32)
        · refine y_tsw (t := 255) rfl rfl (by rw [h34_17]; rfl) ?_
          refine y_st rfl rfl rfl rfl rfl (fun _ _ => rfl) ?_
          refine y_st rfl rfl rfl rfl rfl (fun _ _ => rfl) ?_
          show yP (xg xs) (d + 1) 363 257 [(4, .int (0 : Int32)), (3, .int (1 : Int32)), (0, .int n), (1, .int x), (2, .int y)] [.int y, .int x] m _
          refine y_igt (t := 264) rfl rfl rfl (fun h257 => ?_) (fun h257 => ?_)
          · refine y_st rfl rfl rfl rfl rfl (fun _ _ => rfl) ?_
            show yP (xg xs) (d + 1) 363 265 [(4, .int (0 : Int32)), (3, .int (1 : Int32)), (0, .int n), (1, .int x), (2, .int y)] [.int (0 : Int32)] m _
            exact y_iret rfl rfl rfl (by refine ⟨congrArg (fun z => some (Value.int z)) ?_, rfl⟩; unfold two_ cmp_ shf_ shl_; grind)
          · refine y_st rfl rfl rfl rfl rfl (fun _ _ => rfl) ?_
            refine y_st rfl rfl rfl rfl rfl (fun _ _ => rfl) ?_
            show yP (xg xs) (d + 1) 363 265 [(4, .int (0 : Int32)), (3, .int (1 : Int32)), (0, .int n), (1, .int x), (2, .int y)] [.int (1 : Int32)] m _
            exact y_iret rfl rfl rfl (by refine ⟨congrArg (fun z => some (Value.int z)) ?_, rfl⟩; unfold two_ cmp_ shf_ shl_; grind)
        by_cases h34_18 : n = (18 : Int32)
        · refine y_tsw (t := 266) rfl rfl (by rw [h34_18]; rfl) ?_
          refine y_st rfl rfl rfl rfl rfl (fun _ _ => rfl) ?_
          refine y_st rfl rfl rfl rfl rfl (fun _ _ => rfl) ?_
          show yP (xg xs) (d + 1) 363 268 [(4, .int (0 : Int32)), (3, .int (1 : Int32)), (0, .int n), (1, .int x), (2, .int y)] [.int y, .int x] m _
          refine y_ilt (t := 275) rfl rfl rfl (fun h268 => ?_) (fun h268 => ?_)
          · refine y_st rfl rfl rfl rfl rfl (fun _ _ => rfl) ?_
            show yP (xg xs) (d + 1) 363 276 [(4, .int (0 : Int32)), (3, .int (1 : Int32)), (0, .int n), (1, .int x), (2, .int y)] [.int (0 : Int32)] m _
            exact y_iret rfl rfl rfl (by refine ⟨congrArg (fun z => some (Value.int z)) ?_, rfl⟩; unfold two_ cmp_ shf_ shl_; grind)
          · refine y_st rfl rfl rfl rfl rfl (fun _ _ => rfl) ?_
            refine y_st rfl rfl rfl rfl rfl (fun _ _ => rfl) ?_
            show yP (xg xs) (d + 1) 363 276 [(4, .int (0 : Int32)), (3, .int (1 : Int32)), (0, .int n), (1, .int x), (2, .int y)] [.int (1 : Int32)] m _
            exact y_iret rfl rfl rfl (by refine ⟨congrArg (fun z => some (Value.int z)) ?_, rfl⟩; unfold two_ cmp_ shf_ shl_; grind)
        by_cases h34_19 : n = (19 : Int32)
        · refine y_tsw (t := 277) rfl rfl (by rw [h34_19]; rfl) ?_
          refine y_st rfl rfl rfl rfl rfl (fun _ _ => rfl) ?_
          show yP (xg xs) (d + 1) 363 278 [(4, .int (0 : Int32)), (3, .int (1 : Int32)), (0, .int n), (1, .int x), (2, .int y)] [.int (1 : Int32)] m _
          refine y_zeq (t := 290) rfl rfl rfl (fun h278 => ?_) (fun h278 => ?_)
          · exact absurd h278 (by decide)
          · refine y_st rfl rfl rfl rfl rfl (fun _ _ => rfl) ?_
            refine y_st rfl rfl rfl rfl rfl (fun _ _ => rfl) ?_
            refine y_st rfl rfl rfl rfl rfl (fun _ _ => rfl) ?_
            show yP (xg xs) (d + 1) 363 284 [(4, .int (0 : Int32)), (3, .int (1 : Int32)), (0, .int n), (1, .int x), (2, .int y)] [.int (x <<< (y &&& 31))] m _
            refine y_call rfl rfl rfl rfl rfl (Nat.le_of_ble_eq_true rfl) (Nat.le_of_ble_eq_true rfl) rfl (by decide) (c362 xs d m (x <<< (y &&& 31))) (fun v36 m36 q36 => ?_)
            obtain ⟨rfl, e36⟩ := q36; rw [e36]; clear e36
            refine y_st rfl rfl rfl rfl rfl (fun _ _ => rfl) ?_
            show yP (xg xs) (d + 1) 363 291 [(4, .int (0 : Int32)), (3, .int (1 : Int32)), (0, .int n), (1, .int x), (2, .int y)] [.int (w16 (x <<< (y &&& 31)))] m _
            exact y_iret rfl rfl rfl (by refine ⟨congrArg (fun z => some (Value.int z)) ?_, rfl⟩; unfold two_ cmp_ shf_ shl_; grind)
        by_cases h34_20 : n = (20 : Int32)
        · refine y_tsw (t := 292) rfl rfl (by rw [h34_20]; rfl) ?_
          refine y_st rfl rfl rfl rfl rfl (fun _ _ => rfl) ?_
          show yP (xg xs) (d + 1) 363 293 [(4, .int (0 : Int32)), (3, .int (1 : Int32)), (0, .int n), (1, .int x), (2, .int y)] [.int (1 : Int32)] m _
          refine y_zeq (t := 309) rfl rfl rfl (fun h293 => ?_) (fun h293 => ?_)
          · exact absurd h293 (by decide)
          · refine y_st rfl rfl rfl rfl rfl (fun _ _ => rfl) ?_
            refine y_st rfl rfl rfl rfl rfl (fun _ _ => rfl) ?_
            refine y_st rfl rfl rfl rfl rfl (fun _ _ => rfl) ?_
            refine y_st rfl rfl rfl rfl rfl (fun _ _ => rfl) ?_
            refine y_st rfl rfl rfl rfl rfl (fun _ _ => rfl) ?_
            show yP (xg xs) (d + 1) 363 303 [(4, .int (0 : Int32)), (3, .int (1 : Int32)), (0, .int n), (1, .int x), (2, .int y)] [.int ((x &&& (65535 : Int32)) >>> (y &&& 31))] m _
            refine y_call rfl rfl rfl rfl rfl (Nat.le_of_ble_eq_true rfl) (Nat.le_of_ble_eq_true rfl) rfl (by decide) (c362 xs d m ((x &&& (65535 : Int32)) >>> (y &&& 31))) (fun v37 m37 q37 => ?_)
            obtain ⟨rfl, e37⟩ := q37; rw [e37]; clear e37
            refine y_st rfl rfl rfl rfl rfl (fun _ _ => rfl) ?_
            show yP (xg xs) (d + 1) 363 310 [(4, .int (0 : Int32)), (3, .int (1 : Int32)), (0, .int n), (1, .int x), (2, .int y)] [.int (w16 ((x &&& (65535 : Int32)) >>> (y &&& 31)))] m _
            exact y_iret rfl rfl rfl (by refine ⟨congrArg (fun z => some (Value.int z)) ?_, rfl⟩; unfold two_ cmp_ shf_ shl_; grind)
        by_cases h34_21 : n = (21 : Int32)
        · refine y_tsw (t := 311) rfl rfl (by rw [h34_21]; rfl) ?_
          refine y_st rfl rfl rfl rfl rfl (fun _ _ => rfl) ?_
          show yP (xg xs) (d + 1) 363 313 [(4, .int (0 : Int32)), (3, .int (1 : Int32)), (0, .int n), (1, .int x), (2, .int y)] [.int (0 : Int32)] m _
          refine y_zeq (t := 322) rfl rfl rfl (fun h313 => ?_) (fun h313 => ?_)
          · refine y_st rfl rfl rfl rfl rfl (fun _ _ => rfl) ?_
            show yP (xg xs) (d + 1) 363 323 [(4, .int (0 : Int32)), (3, .int (1 : Int32)), (0, .int n), (1, .int x), (2, .int y)] [.int (0 : Int32)] m _
            exact y_iret rfl rfl rfl (by refine ⟨congrArg (fun z => some (Value.int z)) ?_, rfl⟩; unfold two_ cmp_ shf_ shl_; grind)
          · exact absurd h313 (by decide)
        by_cases h34_22 : n = (22 : Int32)
        · refine y_tsw (t := 324) rfl rfl (by rw [h34_22]; rfl) ?_
          refine y_st rfl rfl rfl rfl rfl (fun _ _ => rfl) ?_
          show yP (xg xs) (d + 1) 363 326 [(4, .int (0 : Int32)), (3, .int (1 : Int32)), (0, .int n), (1, .int x), (2, .int y)] [.int (0 : Int32)] m _
          refine y_zeq (t := 335) rfl rfl rfl (fun h326 => ?_) (fun h326 => ?_)
          · refine y_st rfl rfl rfl rfl rfl (fun _ _ => rfl) ?_
            show yP (xg xs) (d + 1) 363 336 [(4, .int (0 : Int32)), (3, .int (1 : Int32)), (0, .int n), (1, .int x), (2, .int y)] [.int (0 : Int32)] m _
            exact y_iret rfl rfl rfl (by refine ⟨congrArg (fun z => some (Value.int z)) ?_, rfl⟩; unfold two_ cmp_ shf_ shl_; grind)
          · exact absurd h326 (by decide)
        by_cases h34_23 : n = (23 : Int32)
        · refine y_tsw (t := 337) rfl rfl (by rw [h34_23]; rfl) ?_
          refine y_st rfl rfl rfl rfl rfl (fun _ _ => rfl) ?_
          refine y_st rfl rfl rfl rfl rfl (fun _ _ => rfl) ?_
          show yP (xg xs) (d + 1) 363 339 [(4, .int (0 : Int32)), (3, .int (1 : Int32)), (0, .int n), (1, .int x), (2, .int y)] [.int y, .int x] m _
          refine y_ige (t := 346) rfl rfl rfl (fun h339 => ?_) (fun h339 => ?_)
          · refine y_st rfl rfl rfl rfl rfl (fun _ _ => rfl) ?_
            show yP (xg xs) (d + 1) 363 347 [(4, .int (0 : Int32)), (3, .int (1 : Int32)), (0, .int n), (1, .int x), (2, .int y)] [.int y] m _
            exact y_iret rfl rfl rfl (by refine ⟨congrArg (fun z => some (Value.int z)) ?_, rfl⟩; unfold two_ cmp_ shf_ shl_; grind)
          · refine y_st rfl rfl rfl rfl rfl (fun _ _ => rfl) ?_
            refine y_st rfl rfl rfl rfl rfl (fun _ _ => rfl) ?_
            show yP (xg xs) (d + 1) 363 347 [(4, .int (0 : Int32)), (3, .int (1 : Int32)), (0, .int n), (1, .int x), (2, .int y)] [.int x] m _
            exact y_iret rfl rfl rfl (by refine ⟨congrArg (fun z => some (Value.int z)) ?_, rfl⟩; unfold two_ cmp_ shf_ shl_; grind)
        refine y_tsw (t := 348) rfl rfl ((if_pos (by have g0 := ne_lit (0 : Int32) 0 rfl h34_0; have g1 := ne_lit (1 : Int32) 1 rfl h34_1; have g2 := ne_lit (2 : Int32) 2 rfl h34_2; have g3 := ne_lit (3 : Int32) 3 rfl h34_3; have g4 := ne_lit (4 : Int32) 4 rfl h34_4; have g5 := ne_lit (5 : Int32) 5 rfl h34_5; have g6 := ne_lit (6 : Int32) 6 rfl h34_6; have g7 := ne_lit (7 : Int32) 7 rfl h34_7; have g8 := ne_lit (8 : Int32) 8 rfl h34_8; have g9 := ne_lit (9 : Int32) 9 rfl h34_9; have g10 := ne_lit (10 : Int32) 10 rfl h34_10; have g11 := ne_lit (11 : Int32) 11 rfl h34_11; have g12 := ne_lit (12 : Int32) 12 rfl h34_12; have g13 := ne_lit (13 : Int32) 13 rfl h34_13; have g14 := ne_lit (14 : Int32) 14 rfl h34_14; have g15 := ne_lit (15 : Int32) 15 rfl h34_15; have g16 := ne_lit (16 : Int32) 16 rfl h34_16; have g17 := ne_lit (17 : Int32) 17 rfl h34_17; have g18 := ne_lit (18 : Int32) 18 rfl h34_18; have g19 := ne_lit (19 : Int32) 19 rfl h34_19; have g20 := ne_lit (20 : Int32) 20 rfl h34_20; have g21 := ne_lit (21 : Int32) 21 rfl h34_21; have g22 := ne_lit (22 : Int32) 22 rfl h34_22; have g23 := ne_lit (23 : Int32) 23 rfl h34_23; omega)).trans rfl) ?_
        refine y_st rfl rfl rfl rfl rfl (fun _ _ => rfl) ?_
        refine y_st rfl rfl rfl rfl rfl (fun _ _ => rfl) ?_
        show yP (xg xs) (d + 1) 363 350 [(4, .int (0 : Int32)), (3, .int (1 : Int32)), (0, .int n), (1, .int x), (2, .int y)] [.int y, .int x] m _
        refine y_ile (t := 357) rfl rfl rfl (fun h350 => ?_) (fun h350 => ?_)
        · refine y_st rfl rfl rfl rfl rfl (fun _ _ => rfl) ?_
          show yP (xg xs) (d + 1) 363 358 [(4, .int (0 : Int32)), (3, .int (1 : Int32)), (0, .int n), (1, .int x), (2, .int y)] [.int y] m _
          exact y_iret rfl rfl rfl (by refine ⟨congrArg (fun z => some (Value.int z)) ?_, rfl⟩; unfold two_ cmp_ shf_ shl_; grind)
        · refine y_st rfl rfl rfl rfl rfl (fun _ _ => rfl) ?_
          refine y_st rfl rfl rfl rfl rfl (fun _ _ => rfl) ?_
          show yP (xg xs) (d + 1) 363 358 [(4, .int (0 : Int32)), (3, .int (1 : Int32)), (0, .int n), (1, .int x), (2, .int y)] [.int x] m _
          exact y_iret rfl rfl rfl (by refine ⟨congrArg (fun z => some (Value.int z)) ?_, rfl⟩; unfold two_ cmp_ shf_ shl_; grind)
      · refine y_st rfl rfl rfl rfl rfl (fun _ _ => rfl) ?_
        refine y_st rfl rfl rfl rfl rfl (fun _ _ => rfl) ?_
        show yP (xg xs) (d + 1) 363 23 [(3, .int (1 : Int32)), (0, .int n), (1, .int x), (2, .int y)] [.int (32 : Int32), .int y] m _
        refine y_ige (t := 30) rfl rfl rfl (fun h23 => ?_) (fun h23 => ?_)
        · refine y_st rfl rfl rfl rfl rfl (fun _ _ => rfl) ?_
          refine y_st rfl rfl rfl rfl rfl (fun _ _ => rfl) ?_
          refine y_st rfl rfl rfl rfl rfl (fun _ _ => rfl) ?_
          show yP (xg xs) (d + 1) 363 34 [(4, .int (0 : Int32)), (3, .int (1 : Int32)), (0, .int n), (1, .int x), (2, .int y)] [.int n] m _
          by_cases h34_0 : n = (0 : Int32)
          · refine y_tsw (t := 144) rfl rfl (by rw [h34_0]; rfl) ?_
            refine y_st rfl rfl rfl rfl rfl (fun _ _ => rfl) ?_
            refine y_st rfl rfl rfl rfl rfl (fun _ _ => rfl) ?_
            refine y_st rfl rfl rfl rfl rfl (fun _ _ => rfl) ?_
            show yP (xg xs) (d + 1) 363 147 [(4, .int (0 : Int32)), (3, .int (1 : Int32)), (0, .int n), (1, .int x), (2, .int y)] [.int (x + y)] m _
            refine y_call rfl rfl rfl rfl rfl (Nat.le_of_ble_eq_true rfl) (Nat.le_of_ble_eq_true rfl) rfl (by decide) (c362 xs d m (x + y)) (fun v38 m38 q38 => ?_)
            obtain ⟨rfl, e38⟩ := q38; rw [e38]; clear e38
            show yP (xg xs) (d + 1) 363 150 [(4, .int (0 : Int32)), (3, .int (1 : Int32)), (0, .int n), (1, .int x), (2, .int y)] [.int (w16 (x + y))] m _
            exact y_iret rfl rfl rfl (by refine ⟨congrArg (fun z => some (Value.int z)) ?_, rfl⟩; unfold two_ cmp_ shf_ shl_; grind)
          by_cases h34_1 : n = (1 : Int32)
          · refine y_tsw (t := 151) rfl rfl (by rw [h34_1]; rfl) ?_
            refine y_st rfl rfl rfl rfl rfl (fun _ _ => rfl) ?_
            refine y_st rfl rfl rfl rfl rfl (fun _ _ => rfl) ?_
            refine y_st rfl rfl rfl rfl rfl (fun _ _ => rfl) ?_
            show yP (xg xs) (d + 1) 363 154 [(4, .int (0 : Int32)), (3, .int (1 : Int32)), (0, .int n), (1, .int x), (2, .int y)] [.int (x - y)] m _
            refine y_call rfl rfl rfl rfl rfl (Nat.le_of_ble_eq_true rfl) (Nat.le_of_ble_eq_true rfl) rfl (by decide) (c362 xs d m (x - y)) (fun v39 m39 q39 => ?_)
            obtain ⟨rfl, e39⟩ := q39; rw [e39]; clear e39
            show yP (xg xs) (d + 1) 363 157 [(4, .int (0 : Int32)), (3, .int (1 : Int32)), (0, .int n), (1, .int x), (2, .int y)] [.int (w16 (x - y))] m _
            exact y_iret rfl rfl rfl (by refine ⟨congrArg (fun z => some (Value.int z)) ?_, rfl⟩; unfold two_ cmp_ shf_ shl_; grind)
          by_cases h34_2 : n = (2 : Int32)
          · refine y_tsw (t := 158) rfl rfl (by rw [h34_2]; rfl) ?_
            refine y_st rfl rfl rfl rfl rfl (fun _ _ => rfl) ?_
            refine y_st rfl rfl rfl rfl rfl (fun _ _ => rfl) ?_
            refine y_st rfl rfl rfl rfl rfl (fun _ _ => rfl) ?_
            show yP (xg xs) (d + 1) 363 161 [(4, .int (0 : Int32)), (3, .int (1 : Int32)), (0, .int n), (1, .int x), (2, .int y)] [.int (x * y)] m _
            refine y_call rfl rfl rfl rfl rfl (Nat.le_of_ble_eq_true rfl) (Nat.le_of_ble_eq_true rfl) rfl (by decide) (c362 xs d m (x * y)) (fun v40 m40 q40 => ?_)
            obtain ⟨rfl, e40⟩ := q40; rw [e40]; clear e40
            show yP (xg xs) (d + 1) 363 164 [(4, .int (0 : Int32)), (3, .int (1 : Int32)), (0, .int n), (1, .int x), (2, .int y)] [.int (w16 (x * y))] m _
            exact y_iret rfl rfl rfl (by refine ⟨congrArg (fun z => some (Value.int z)) ?_, rfl⟩; unfold two_ cmp_ shf_ shl_; grind)
          by_cases h34_3 : n = (3 : Int32)
          · refine y_tsw (t := 165) rfl rfl (by rw [h34_3]; rfl) ?_
            refine y_st rfl rfl rfl rfl rfl (fun _ _ => rfl) ?_
            refine y_st rfl rfl rfl rfl rfl (fun _ _ => rfl) ?_
            show yP (xg xs) (d + 1) 363 167 [(4, .int (0 : Int32)), (3, .int (1 : Int32)), (0, .int n), (1, .int x), (2, .int y)] [.int y, .int x] m _
            refine y_idiv rfl rfl (by grind) ?_
            show yP (xg xs) (d + 1) 363 168 [(4, .int (0 : Int32)), (3, .int (1 : Int32)), (0, .int n), (1, .int x), (2, .int y)] [.int (x / y)] m _
            refine y_call rfl rfl rfl rfl rfl (Nat.le_of_ble_eq_true rfl) (Nat.le_of_ble_eq_true rfl) rfl (by decide) (c362 xs d m (x / y)) (fun v41 m41 q41 => ?_)
            obtain ⟨rfl, e41⟩ := q41; rw [e41]; clear e41
            show yP (xg xs) (d + 1) 363 171 [(4, .int (0 : Int32)), (3, .int (1 : Int32)), (0, .int n), (1, .int x), (2, .int y)] [.int (w16 (x / y))] m _
            exact y_iret rfl rfl rfl (by refine ⟨congrArg (fun z => some (Value.int z)) ?_, rfl⟩; unfold two_ cmp_ shf_ shl_; grind)
          by_cases h34_4 : n = (4 : Int32)
          · refine y_tsw (t := 172) rfl rfl (by rw [h34_4]; rfl) ?_
            refine y_st rfl rfl rfl rfl rfl (fun _ _ => rfl) ?_
            refine y_st rfl rfl rfl rfl rfl (fun _ _ => rfl) ?_
            show yP (xg xs) (d + 1) 363 174 [(4, .int (0 : Int32)), (3, .int (1 : Int32)), (0, .int n), (1, .int x), (2, .int y)] [.int y, .int x] m _
            refine y_irem rfl rfl (by grind) ?_
            show yP (xg xs) (d + 1) 363 175 [(4, .int (0 : Int32)), (3, .int (1 : Int32)), (0, .int n), (1, .int x), (2, .int y)] [.int (x - x / y * y)] m _
            refine y_call rfl rfl rfl rfl rfl (Nat.le_of_ble_eq_true rfl) (Nat.le_of_ble_eq_true rfl) rfl (by decide) (c362 xs d m (x - x / y * y)) (fun v42 m42 q42 => ?_)
            obtain ⟨rfl, e42⟩ := q42; rw [e42]; clear e42
            show yP (xg xs) (d + 1) 363 178 [(4, .int (0 : Int32)), (3, .int (1 : Int32)), (0, .int n), (1, .int x), (2, .int y)] [.int (w16 (x - x / y * y))] m _
            exact y_iret rfl rfl rfl (by refine ⟨congrArg (fun z => some (Value.int z)) ?_, rfl⟩; unfold two_ cmp_ shf_ shl_; grind)
          by_cases h34_5 : n = (5 : Int32)
          · refine y_tsw (t := 179) rfl rfl (by rw [h34_5]; rfl) ?_
            refine y_st rfl rfl rfl rfl rfl (fun _ _ => rfl) ?_
            refine y_st rfl rfl rfl rfl rfl (fun _ _ => rfl) ?_
            refine y_st rfl rfl rfl rfl rfl (fun _ _ => rfl) ?_
            show yP (xg xs) (d + 1) 363 182 [(4, .int (0 : Int32)), (3, .int (1 : Int32)), (0, .int n), (1, .int x), (2, .int y)] [.int (x + y)] m _
            exact y_iret rfl rfl rfl (by refine ⟨congrArg (fun z => some (Value.int z)) ?_, rfl⟩; unfold two_ cmp_ shf_ shl_; grind)
          by_cases h34_6 : n = (6 : Int32)
          · refine y_tsw (t := 183) rfl rfl (by rw [h34_6]; rfl) ?_
            refine y_st rfl rfl rfl rfl rfl (fun _ _ => rfl) ?_
            refine y_st rfl rfl rfl rfl rfl (fun _ _ => rfl) ?_
            refine y_st rfl rfl rfl rfl rfl (fun _ _ => rfl) ?_
            show yP (xg xs) (d + 1) 363 186 [(4, .int (0 : Int32)), (3, .int (1 : Int32)), (0, .int n), (1, .int x), (2, .int y)] [.int (x - y)] m _
            exact y_iret rfl rfl rfl (by refine ⟨congrArg (fun z => some (Value.int z)) ?_, rfl⟩; unfold two_ cmp_ shf_ shl_; grind)
          by_cases h34_7 : n = (7 : Int32)
          · refine y_tsw (t := 187) rfl rfl (by rw [h34_7]; rfl) ?_
            refine y_st rfl rfl rfl rfl rfl (fun _ _ => rfl) ?_
            refine y_st rfl rfl rfl rfl rfl (fun _ _ => rfl) ?_
            refine y_st rfl rfl rfl rfl rfl (fun _ _ => rfl) ?_
            show yP (xg xs) (d + 1) 363 190 [(4, .int (0 : Int32)), (3, .int (1 : Int32)), (0, .int n), (1, .int x), (2, .int y)] [.int (x * y)] m _
            exact y_iret rfl rfl rfl (by refine ⟨congrArg (fun z => some (Value.int z)) ?_, rfl⟩; unfold two_ cmp_ shf_ shl_; grind)
          by_cases h34_8 : n = (8 : Int32)
          · refine y_tsw (t := 191) rfl rfl (by rw [h34_8]; rfl) ?_
            refine y_st rfl rfl rfl rfl rfl (fun _ _ => rfl) ?_
            refine y_st rfl rfl rfl rfl rfl (fun _ _ => rfl) ?_
            show yP (xg xs) (d + 1) 363 193 [(4, .int (0 : Int32)), (3, .int (1 : Int32)), (0, .int n), (1, .int x), (2, .int y)] [.int y, .int x] m _
            refine y_idiv rfl rfl (by grind) ?_
            show yP (xg xs) (d + 1) 363 194 [(4, .int (0 : Int32)), (3, .int (1 : Int32)), (0, .int n), (1, .int x), (2, .int y)] [.int (x / y)] m _
            exact y_iret rfl rfl rfl (by refine ⟨congrArg (fun z => some (Value.int z)) ?_, rfl⟩; unfold two_ cmp_ shf_ shl_; grind)
          by_cases h34_9 : n = (9 : Int32)
          · refine y_tsw (t := 195) rfl rfl (by rw [h34_9]; rfl) ?_
            refine y_st rfl rfl rfl rfl rfl (fun _ _ => rfl) ?_
            refine y_st rfl rfl rfl rfl rfl (fun _ _ => rfl) ?_
            show yP (xg xs) (d + 1) 363 197 [(4, .int (0 : Int32)), (3, .int (1 : Int32)), (0, .int n), (1, .int x), (2, .int y)] [.int y, .int x] m _
            refine y_irem rfl rfl (by grind) ?_
            show yP (xg xs) (d + 1) 363 198 [(4, .int (0 : Int32)), (3, .int (1 : Int32)), (0, .int n), (1, .int x), (2, .int y)] [.int (x - x / y * y)] m _
            exact y_iret rfl rfl rfl (by refine ⟨congrArg (fun z => some (Value.int z)) ?_, rfl⟩; unfold two_ cmp_ shf_ shl_; grind)
          by_cases h34_10 : n = (10 : Int32)
          · refine y_tsw (t := 199) rfl rfl (by rw [h34_10]; rfl) ?_
            refine y_st rfl rfl rfl rfl rfl (fun _ _ => rfl) ?_
            refine y_st rfl rfl rfl rfl rfl (fun _ _ => rfl) ?_
            refine y_st rfl rfl rfl rfl rfl (fun _ _ => rfl) ?_
            show yP (xg xs) (d + 1) 363 202 [(4, .int (0 : Int32)), (3, .int (1 : Int32)), (0, .int n), (1, .int x), (2, .int y)] [.int (x &&& y)] m _
            exact y_iret rfl rfl rfl (by refine ⟨congrArg (fun z => some (Value.int z)) ?_, rfl⟩; unfold two_ cmp_ shf_ shl_; grind)
          by_cases h34_11 : n = (11 : Int32)
          · refine y_tsw (t := 203) rfl rfl (by rw [h34_11]; rfl) ?_
            refine y_st rfl rfl rfl rfl rfl (fun _ _ => rfl) ?_
            refine y_st rfl rfl rfl rfl rfl (fun _ _ => rfl) ?_
            refine y_st rfl rfl rfl rfl rfl (fun _ _ => rfl) ?_
            show yP (xg xs) (d + 1) 363 206 [(4, .int (0 : Int32)), (3, .int (1 : Int32)), (0, .int n), (1, .int x), (2, .int y)] [.int (x ||| y)] m _
            exact y_iret rfl rfl rfl (by refine ⟨congrArg (fun z => some (Value.int z)) ?_, rfl⟩; unfold two_ cmp_ shf_ shl_; grind)
          by_cases h34_12 : n = (12 : Int32)
          · refine y_tsw (t := 207) rfl rfl (by rw [h34_12]; rfl) ?_
            refine y_st rfl rfl rfl rfl rfl (fun _ _ => rfl) ?_
            refine y_st rfl rfl rfl rfl rfl (fun _ _ => rfl) ?_
            refine y_st rfl rfl rfl rfl rfl (fun _ _ => rfl) ?_
            show yP (xg xs) (d + 1) 363 210 [(4, .int (0 : Int32)), (3, .int (1 : Int32)), (0, .int n), (1, .int x), (2, .int y)] [.int (x ^^^ y)] m _
            exact y_iret rfl rfl rfl (by refine ⟨congrArg (fun z => some (Value.int z)) ?_, rfl⟩; unfold two_ cmp_ shf_ shl_; grind)
          by_cases h34_13 : n = (13 : Int32)
          · refine y_tsw (t := 211) rfl rfl (by rw [h34_13]; rfl) ?_
            refine y_st rfl rfl rfl rfl rfl (fun _ _ => rfl) ?_
            refine y_st rfl rfl rfl rfl rfl (fun _ _ => rfl) ?_
            show yP (xg xs) (d + 1) 363 213 [(4, .int (0 : Int32)), (3, .int (1 : Int32)), (0, .int n), (1, .int x), (2, .int y)] [.int y, .int x] m _
            refine y_ine (t := 220) rfl rfl rfl (fun h213 => ?_) (fun h213 => ?_)
            · refine y_st rfl rfl rfl rfl rfl (fun _ _ => rfl) ?_
              show yP (xg xs) (d + 1) 363 221 [(4, .int (0 : Int32)), (3, .int (1 : Int32)), (0, .int n), (1, .int x), (2, .int y)] [.int (0 : Int32)] m _
              exact y_iret rfl rfl rfl (by refine ⟨congrArg (fun z => some (Value.int z)) ?_, rfl⟩; unfold two_ cmp_ shf_ shl_; grind)
            · refine y_st rfl rfl rfl rfl rfl (fun _ _ => rfl) ?_
              refine y_st rfl rfl rfl rfl rfl (fun _ _ => rfl) ?_
              show yP (xg xs) (d + 1) 363 221 [(4, .int (0 : Int32)), (3, .int (1 : Int32)), (0, .int n), (1, .int x), (2, .int y)] [.int (1 : Int32)] m _
              exact y_iret rfl rfl rfl (by refine ⟨congrArg (fun z => some (Value.int z)) ?_, rfl⟩; unfold two_ cmp_ shf_ shl_; grind)
          by_cases h34_14 : n = (14 : Int32)
          · refine y_tsw (t := 222) rfl rfl (by rw [h34_14]; rfl) ?_
            refine y_st rfl rfl rfl rfl rfl (fun _ _ => rfl) ?_
            refine y_st rfl rfl rfl rfl rfl (fun _ _ => rfl) ?_
            show yP (xg xs) (d + 1) 363 224 [(4, .int (0 : Int32)), (3, .int (1 : Int32)), (0, .int n), (1, .int x), (2, .int y)] [.int y, .int x] m _
            refine y_ieq (t := 231) rfl rfl rfl (fun h224 => ?_) (fun h224 => ?_)
            · refine y_st rfl rfl rfl rfl rfl (fun _ _ => rfl) ?_
              show yP (xg xs) (d + 1) 363 232 [(4, .int (0 : Int32)), (3, .int (1 : Int32)), (0, .int n), (1, .int x), (2, .int y)] [.int (0 : Int32)] m _
              exact y_iret rfl rfl rfl (by refine ⟨congrArg (fun z => some (Value.int z)) ?_, rfl⟩; unfold two_ cmp_ shf_ shl_; grind)
            · refine y_st rfl rfl rfl rfl rfl (fun _ _ => rfl) ?_
              refine y_st rfl rfl rfl rfl rfl (fun _ _ => rfl) ?_
              show yP (xg xs) (d + 1) 363 232 [(4, .int (0 : Int32)), (3, .int (1 : Int32)), (0, .int n), (1, .int x), (2, .int y)] [.int (1 : Int32)] m _
              exact y_iret rfl rfl rfl (by refine ⟨congrArg (fun z => some (Value.int z)) ?_, rfl⟩; unfold two_ cmp_ shf_ shl_; grind)
          by_cases h34_15 : n = (15 : Int32)
          · refine y_tsw (t := 233) rfl rfl (by rw [h34_15]; rfl) ?_
            refine y_st rfl rfl rfl rfl rfl (fun _ _ => rfl) ?_
            refine y_st rfl rfl rfl rfl rfl (fun _ _ => rfl) ?_
            show yP (xg xs) (d + 1) 363 235 [(4, .int (0 : Int32)), (3, .int (1 : Int32)), (0, .int n), (1, .int x), (2, .int y)] [.int y, .int x] m _
            refine y_ige (t := 242) rfl rfl rfl (fun h235 => ?_) (fun h235 => ?_)
            · refine y_st rfl rfl rfl rfl rfl (fun _ _ => rfl) ?_
              show yP (xg xs) (d + 1) 363 243 [(4, .int (0 : Int32)), (3, .int (1 : Int32)), (0, .int n), (1, .int x), (2, .int y)] [.int (0 : Int32)] m _
              exact y_iret rfl rfl rfl (by refine ⟨congrArg (fun z => some (Value.int z)) ?_, rfl⟩; unfold two_ cmp_ shf_ shl_; grind)
            · refine y_st rfl rfl rfl rfl rfl (fun _ _ => rfl) ?_
              refine y_st rfl rfl rfl rfl rfl (fun _ _ => rfl) ?_
              show yP (xg xs) (d + 1) 363 243 [(4, .int (0 : Int32)), (3, .int (1 : Int32)), (0, .int n), (1, .int x), (2, .int y)] [.int (1 : Int32)] m _
              exact y_iret rfl rfl rfl (by refine ⟨congrArg (fun z => some (Value.int z)) ?_, rfl⟩; unfold two_ cmp_ shf_ shl_; grind)
          by_cases h34_16 : n = (16 : Int32)
          · refine y_tsw (t := 244) rfl rfl (by rw [h34_16]; rfl) ?_
            refine y_st rfl rfl rfl rfl rfl (fun _ _ => rfl) ?_
            refine y_st rfl rfl rfl rfl rfl (fun _ _ => rfl) ?_
            show yP (xg xs) (d + 1) 363 246 [(4, .int (0 : Int32)), (3, .int (1 : Int32)), (0, .int n), (1, .int x), (2, .int y)] [.int y, .int x] m _
            refine y_ile (t := 253) rfl rfl rfl (fun h246 => ?_) (fun h246 => ?_)
            · refine y_st rfl rfl rfl rfl rfl (fun _ _ => rfl) ?_
              show yP (xg xs) (d + 1) 363 254 [(4, .int (0 : Int32)), (3, .int (1 : Int32)), (0, .int n), (1, .int x), (2, .int y)] [.int (0 : Int32)] m _
              exact y_iret rfl rfl rfl (by refine ⟨congrArg (fun z => some (Value.int z)) ?_, rfl⟩; unfold two_ cmp_ shf_ shl_; grind)
            · refine y_st rfl rfl rfl rfl rfl (fun _ _ => rfl) ?_
              refine y_st rfl rfl rfl rfl rfl (fun _ _ => rfl) ?_
              show yP (xg xs) (d + 1) 363 254 [(4, .int (0 : Int32)), (3, .int (1 : Int32)), (0, .int n), (1, .int x), (2, .int y)] [.int (1 : Int32)] m _
              exact y_iret rfl rfl rfl (by refine ⟨congrArg (fun z => some (Value.int z)) ?_, rfl⟩; unfold two_ cmp_ shf_ shl_; grind)
          by_cases h34_17 : n = (17 : Int32)
          · refine y_tsw (t := 255) rfl rfl (by rw [h34_17]; rfl) ?_
            refine y_st rfl rfl rfl rfl rfl (fun _ _ => rfl) ?_
            refine y_st rfl rfl rfl rfl rfl (fun _ _ => rfl) ?_
            show yP (xg xs) (d + 1) 363 257 [(4, .int (0 : Int32)), (3, .int (1 : Int32)), (0, .int n), (1, .int x), (2, .int y)] [.int y, .int x] m _
            refine y_igt (t := 264) rfl rfl rfl (fun h257 => ?_) (fun h257 => ?_)
            · refine y_st rfl rfl rfl rfl rfl (fun _ _ => rfl) ?_
              show yP (xg xs) (d + 1) 363 265 [(4, .int (0 : Int32)), (3, .int (1 : Int32)), (0, .int n), (1, .int x), (2, .int y)] [.int (0 : Int32)] m _
              exact y_iret rfl rfl rfl (by refine ⟨congrArg (fun z => some (Value.int z)) ?_, rfl⟩; unfold two_ cmp_ shf_ shl_; grind)
            · refine y_st rfl rfl rfl rfl rfl (fun _ _ => rfl) ?_
              refine y_st rfl rfl rfl rfl rfl (fun _ _ => rfl) ?_
              show yP (xg xs) (d + 1) 363 265 [(4, .int (0 : Int32)), (3, .int (1 : Int32)), (0, .int n), (1, .int x), (2, .int y)] [.int (1 : Int32)] m _
              exact y_iret rfl rfl rfl (by refine ⟨congrArg (fun z => some (Value.int z)) ?_, rfl⟩; unfold two_ cmp_ shf_ shl_; grind)
          by_cases h34_18 : n = (18 : Int32)
          · refine y_tsw (t := 266) rfl rfl (by rw [h34_18]; rfl) ?_
            refine y_st rfl rfl rfl rfl rfl (fun _ _ => rfl) ?_
            refine y_st rfl rfl rfl rfl rfl (fun _ _ => rfl) ?_
            show yP (xg xs) (d + 1) 363 268 [(4, .int (0 : Int32)), (3, .int (1 : Int32)), (0, .int n), (1, .int x), (2, .int y)] [.int y, .int x] m _
            refine y_ilt (t := 275) rfl rfl rfl (fun h268 => ?_) (fun h268 => ?_)
            · refine y_st rfl rfl rfl rfl rfl (fun _ _ => rfl) ?_
              show yP (xg xs) (d + 1) 363 276 [(4, .int (0 : Int32)), (3, .int (1 : Int32)), (0, .int n), (1, .int x), (2, .int y)] [.int (0 : Int32)] m _
              exact y_iret rfl rfl rfl (by refine ⟨congrArg (fun z => some (Value.int z)) ?_, rfl⟩; unfold two_ cmp_ shf_ shl_; grind)
            · refine y_st rfl rfl rfl rfl rfl (fun _ _ => rfl) ?_
              refine y_st rfl rfl rfl rfl rfl (fun _ _ => rfl) ?_
              show yP (xg xs) (d + 1) 363 276 [(4, .int (0 : Int32)), (3, .int (1 : Int32)), (0, .int n), (1, .int x), (2, .int y)] [.int (1 : Int32)] m _
              exact y_iret rfl rfl rfl (by refine ⟨congrArg (fun z => some (Value.int z)) ?_, rfl⟩; unfold two_ cmp_ shf_ shl_; grind)
          by_cases h34_19 : n = (19 : Int32)
          · refine y_tsw (t := 277) rfl rfl (by rw [h34_19]; rfl) ?_
            refine y_st rfl rfl rfl rfl rfl (fun _ _ => rfl) ?_
            show yP (xg xs) (d + 1) 363 278 [(4, .int (0 : Int32)), (3, .int (1 : Int32)), (0, .int n), (1, .int x), (2, .int y)] [.int (1 : Int32)] m _
            refine y_zeq (t := 290) rfl rfl rfl (fun h278 => ?_) (fun h278 => ?_)
            · exact absurd h278 (by decide)
            · refine y_st rfl rfl rfl rfl rfl (fun _ _ => rfl) ?_
              refine y_st rfl rfl rfl rfl rfl (fun _ _ => rfl) ?_
              refine y_st rfl rfl rfl rfl rfl (fun _ _ => rfl) ?_
              show yP (xg xs) (d + 1) 363 284 [(4, .int (0 : Int32)), (3, .int (1 : Int32)), (0, .int n), (1, .int x), (2, .int y)] [.int (x <<< (y &&& 31))] m _
              refine y_call rfl rfl rfl rfl rfl (Nat.le_of_ble_eq_true rfl) (Nat.le_of_ble_eq_true rfl) rfl (by decide) (c362 xs d m (x <<< (y &&& 31))) (fun v43 m43 q43 => ?_)
              obtain ⟨rfl, e43⟩ := q43; rw [e43]; clear e43
              refine y_st rfl rfl rfl rfl rfl (fun _ _ => rfl) ?_
              show yP (xg xs) (d + 1) 363 291 [(4, .int (0 : Int32)), (3, .int (1 : Int32)), (0, .int n), (1, .int x), (2, .int y)] [.int (w16 (x <<< (y &&& 31)))] m _
              exact y_iret rfl rfl rfl (by refine ⟨congrArg (fun z => some (Value.int z)) ?_, rfl⟩; unfold two_ cmp_ shf_ shl_; grind)
          by_cases h34_20 : n = (20 : Int32)
          · refine y_tsw (t := 292) rfl rfl (by rw [h34_20]; rfl) ?_
            refine y_st rfl rfl rfl rfl rfl (fun _ _ => rfl) ?_
            show yP (xg xs) (d + 1) 363 293 [(4, .int (0 : Int32)), (3, .int (1 : Int32)), (0, .int n), (1, .int x), (2, .int y)] [.int (1 : Int32)] m _
            refine y_zeq (t := 309) rfl rfl rfl (fun h293 => ?_) (fun h293 => ?_)
            · exact absurd h293 (by decide)
            · refine y_st rfl rfl rfl rfl rfl (fun _ _ => rfl) ?_
              refine y_st rfl rfl rfl rfl rfl (fun _ _ => rfl) ?_
              refine y_st rfl rfl rfl rfl rfl (fun _ _ => rfl) ?_
              refine y_st rfl rfl rfl rfl rfl (fun _ _ => rfl) ?_
              refine y_st rfl rfl rfl rfl rfl (fun _ _ => rfl) ?_
              show yP (xg xs) (d + 1) 363 303 [(4, .int (0 : Int32)), (3, .int (1 : Int32)), (0, .int n), (1, .int x), (2, .int y)] [.int ((x &&& (65535 : Int32)) >>> (y &&& 31))] m _
              refine y_call rfl rfl rfl rfl rfl (Nat.le_of_ble_eq_true rfl) (Nat.le_of_ble_eq_true rfl) rfl (by decide) (c362 xs d m ((x &&& (65535 : Int32)) >>> (y &&& 31))) (fun v44 m44 q44 => ?_)
              obtain ⟨rfl, e44⟩ := q44; rw [e44]; clear e44
              refine y_st rfl rfl rfl rfl rfl (fun _ _ => rfl) ?_
              show yP (xg xs) (d + 1) 363 310 [(4, .int (0 : Int32)), (3, .int (1 : Int32)), (0, .int n), (1, .int x), (2, .int y)] [.int (w16 ((x &&& (65535 : Int32)) >>> (y &&& 31)))] m _
              exact y_iret rfl rfl rfl (by refine ⟨congrArg (fun z => some (Value.int z)) ?_, rfl⟩; unfold two_ cmp_ shf_ shl_; grind)
          by_cases h34_21 : n = (21 : Int32)
          · refine y_tsw (t := 311) rfl rfl (by rw [h34_21]; rfl) ?_
            refine y_st rfl rfl rfl rfl rfl (fun _ _ => rfl) ?_
            show yP (xg xs) (d + 1) 363 313 [(4, .int (0 : Int32)), (3, .int (1 : Int32)), (0, .int n), (1, .int x), (2, .int y)] [.int (0 : Int32)] m _
            refine y_zeq (t := 322) rfl rfl rfl (fun h313 => ?_) (fun h313 => ?_)
            · refine y_st rfl rfl rfl rfl rfl (fun _ _ => rfl) ?_
              show yP (xg xs) (d + 1) 363 323 [(4, .int (0 : Int32)), (3, .int (1 : Int32)), (0, .int n), (1, .int x), (2, .int y)] [.int (0 : Int32)] m _
              exact y_iret rfl rfl rfl (by refine ⟨congrArg (fun z => some (Value.int z)) ?_, rfl⟩; unfold two_ cmp_ shf_ shl_; grind)
            · exact absurd h313 (by decide)
          by_cases h34_22 : n = (22 : Int32)
          · refine y_tsw (t := 324) rfl rfl (by rw [h34_22]; rfl) ?_
            refine y_st rfl rfl rfl rfl rfl (fun _ _ => rfl) ?_
            show yP (xg xs) (d + 1) 363 326 [(4, .int (0 : Int32)), (3, .int (1 : Int32)), (0, .int n), (1, .int x), (2, .int y)] [.int (0 : Int32)] m _
            refine y_zeq (t := 335) rfl rfl rfl (fun h326 => ?_) (fun h326 => ?_)
            · refine y_st rfl rfl rfl rfl rfl (fun _ _ => rfl) ?_
              show yP (xg xs) (d + 1) 363 336 [(4, .int (0 : Int32)), (3, .int (1 : Int32)), (0, .int n), (1, .int x), (2, .int y)] [.int (0 : Int32)] m _
              exact y_iret rfl rfl rfl (by refine ⟨congrArg (fun z => some (Value.int z)) ?_, rfl⟩; unfold two_ cmp_ shf_ shl_; grind)
            · exact absurd h326 (by decide)
          by_cases h34_23 : n = (23 : Int32)
          · refine y_tsw (t := 337) rfl rfl (by rw [h34_23]; rfl) ?_
            refine y_st rfl rfl rfl rfl rfl (fun _ _ => rfl) ?_
            refine y_st rfl rfl rfl rfl rfl (fun _ _ => rfl) ?_
            show yP (xg xs) (d + 1) 363 339 [(4, .int (0 : Int32)), (3, .int (1 : Int32)), (0, .int n), (1, .int x), (2, .int y)] [.int y, .int x] m _
            refine y_ige (t := 346) rfl rfl rfl (fun h339 => ?_) (fun h339 => ?_)
            · refine y_st rfl rfl rfl rfl rfl (fun _ _ => rfl) ?_
              show yP (xg xs) (d + 1) 363 347 [(4, .int (0 : Int32)), (3, .int (1 : Int32)), (0, .int n), (1, .int x), (2, .int y)] [.int y] m _
              exact y_iret rfl rfl rfl (by refine ⟨congrArg (fun z => some (Value.int z)) ?_, rfl⟩; unfold two_ cmp_ shf_ shl_; grind)
            · refine y_st rfl rfl rfl rfl rfl (fun _ _ => rfl) ?_
              refine y_st rfl rfl rfl rfl rfl (fun _ _ => rfl) ?_
              show yP (xg xs) (d + 1) 363 347 [(4, .int (0 : Int32)), (3, .int (1 : Int32)), (0, .int n), (1, .int x), (2, .int y)] [.int x] m _
              exact y_iret rfl rfl rfl (by refine ⟨congrArg (fun z => some (Value.int z)) ?_, rfl⟩; unfold two_ cmp_ shf_ shl_; grind)
          refine y_tsw (t := 348) rfl rfl ((if_pos (by have g0 := ne_lit (0 : Int32) 0 rfl h34_0; have g1 := ne_lit (1 : Int32) 1 rfl h34_1; have g2 := ne_lit (2 : Int32) 2 rfl h34_2; have g3 := ne_lit (3 : Int32) 3 rfl h34_3; have g4 := ne_lit (4 : Int32) 4 rfl h34_4; have g5 := ne_lit (5 : Int32) 5 rfl h34_5; have g6 := ne_lit (6 : Int32) 6 rfl h34_6; have g7 := ne_lit (7 : Int32) 7 rfl h34_7; have g8 := ne_lit (8 : Int32) 8 rfl h34_8; have g9 := ne_lit (9 : Int32) 9 rfl h34_9; have g10 := ne_lit (10 : Int32) 10 rfl h34_10; have g11 := ne_lit (11 : Int32) 11 rfl h34_11; have g12 := ne_lit (12 : Int32) 12 rfl h34_12; have g13 := ne_lit (13 : Int32) 13 rfl h34_13; have g14 := ne_lit (14 : Int32) 14 rfl h34_14; have g15 := ne_lit (15 : Int32) 15 rfl h34_15; have g16 := ne_lit (16 : Int32) 16 rfl h34_16; have g17 := ne_lit (17 : Int32) 17 rfl h34_17; have g18 := ne_lit (18 : Int32) 18 rfl h34_18; have g19 := ne_lit (19 : Int32) 19 rfl h34_19; have g20 := ne_lit (20 : Int32) 20 rfl h34_20; have g21 := ne_lit (21 : Int32) 21 rfl h34_21; have g22 := ne_lit (22 : Int32) 22 rfl h34_22; have g23 := ne_lit (23 : Int32) 23 rfl h34_23; omega)).trans rfl) ?_
          refine y_st rfl rfl rfl rfl rfl (fun _ _ => rfl) ?_
          refine y_st rfl rfl rfl rfl rfl (fun _ _ => rfl) ?_
          show yP (xg xs) (d + 1) 363 350 [(4, .int (0 : Int32)), (3, .int (1 : Int32)), (0, .int n), (1, .int x), (2, .int y)] [.int y, .int x] m _
          refine y_ile (t := 357) rfl rfl rfl (fun h350 => ?_) (fun h350 => ?_)
          · refine y_st rfl rfl rfl rfl rfl (fun _ _ => rfl) ?_
            show yP (xg xs) (d + 1) 363 358 [(4, .int (0 : Int32)), (3, .int (1 : Int32)), (0, .int n), (1, .int x), (2, .int y)] [.int y] m _
            exact y_iret rfl rfl rfl (by refine ⟨congrArg (fun z => some (Value.int z)) ?_, rfl⟩; unfold two_ cmp_ shf_ shl_; grind)
          · refine y_st rfl rfl rfl rfl rfl (fun _ _ => rfl) ?_
            refine y_st rfl rfl rfl rfl rfl (fun _ _ => rfl) ?_
            show yP (xg xs) (d + 1) 363 358 [(4, .int (0 : Int32)), (3, .int (1 : Int32)), (0, .int n), (1, .int x), (2, .int y)] [.int x] m _
            exact y_iret rfl rfl rfl (by refine ⟨congrArg (fun z => some (Value.int z)) ?_, rfl⟩; unfold two_ cmp_ shf_ shl_; grind)
        · refine y_st rfl rfl rfl rfl rfl (fun _ _ => rfl) ?_
          refine y_st rfl rfl rfl rfl rfl (fun _ _ => rfl) ?_
          refine y_st rfl rfl rfl rfl rfl (fun _ _ => rfl) ?_
          refine y_st rfl rfl rfl rfl rfl (fun _ _ => rfl) ?_
          show yP (xg xs) (d + 1) 363 34 [(4, .int (1 : Int32)), (3, .int (1 : Int32)), (0, .int n), (1, .int x), (2, .int y)] [.int n] m _
          by_cases h34_0 : n = (0 : Int32)
          · refine y_tsw (t := 144) rfl rfl (by rw [h34_0]; rfl) ?_
            refine y_st rfl rfl rfl rfl rfl (fun _ _ => rfl) ?_
            refine y_st rfl rfl rfl rfl rfl (fun _ _ => rfl) ?_
            refine y_st rfl rfl rfl rfl rfl (fun _ _ => rfl) ?_
            show yP (xg xs) (d + 1) 363 147 [(4, .int (1 : Int32)), (3, .int (1 : Int32)), (0, .int n), (1, .int x), (2, .int y)] [.int (x + y)] m _
            refine y_call rfl rfl rfl rfl rfl (Nat.le_of_ble_eq_true rfl) (Nat.le_of_ble_eq_true rfl) rfl (by decide) (c362 xs d m (x + y)) (fun v45 m45 q45 => ?_)
            obtain ⟨rfl, e45⟩ := q45; rw [e45]; clear e45
            show yP (xg xs) (d + 1) 363 150 [(4, .int (1 : Int32)), (3, .int (1 : Int32)), (0, .int n), (1, .int x), (2, .int y)] [.int (w16 (x + y))] m _
            exact y_iret rfl rfl rfl (by refine ⟨congrArg (fun z => some (Value.int z)) ?_, rfl⟩; unfold two_ cmp_ shf_ shl_; grind)
          by_cases h34_1 : n = (1 : Int32)
          · refine y_tsw (t := 151) rfl rfl (by rw [h34_1]; rfl) ?_
            refine y_st rfl rfl rfl rfl rfl (fun _ _ => rfl) ?_
            refine y_st rfl rfl rfl rfl rfl (fun _ _ => rfl) ?_
            refine y_st rfl rfl rfl rfl rfl (fun _ _ => rfl) ?_
            show yP (xg xs) (d + 1) 363 154 [(4, .int (1 : Int32)), (3, .int (1 : Int32)), (0, .int n), (1, .int x), (2, .int y)] [.int (x - y)] m _
            refine y_call rfl rfl rfl rfl rfl (Nat.le_of_ble_eq_true rfl) (Nat.le_of_ble_eq_true rfl) rfl (by decide) (c362 xs d m (x - y)) (fun v46 m46 q46 => ?_)
            obtain ⟨rfl, e46⟩ := q46; rw [e46]; clear e46
            show yP (xg xs) (d + 1) 363 157 [(4, .int (1 : Int32)), (3, .int (1 : Int32)), (0, .int n), (1, .int x), (2, .int y)] [.int (w16 (x - y))] m _
            exact y_iret rfl rfl rfl (by refine ⟨congrArg (fun z => some (Value.int z)) ?_, rfl⟩; unfold two_ cmp_ shf_ shl_; grind)
          by_cases h34_2 : n = (2 : Int32)
          · refine y_tsw (t := 158) rfl rfl (by rw [h34_2]; rfl) ?_
            refine y_st rfl rfl rfl rfl rfl (fun _ _ => rfl) ?_
            refine y_st rfl rfl rfl rfl rfl (fun _ _ => rfl) ?_
            refine y_st rfl rfl rfl rfl rfl (fun _ _ => rfl) ?_
            show yP (xg xs) (d + 1) 363 161 [(4, .int (1 : Int32)), (3, .int (1 : Int32)), (0, .int n), (1, .int x), (2, .int y)] [.int (x * y)] m _
            refine y_call rfl rfl rfl rfl rfl (Nat.le_of_ble_eq_true rfl) (Nat.le_of_ble_eq_true rfl) rfl (by decide) (c362 xs d m (x * y)) (fun v47 m47 q47 => ?_)
            obtain ⟨rfl, e47⟩ := q47; rw [e47]; clear e47
            show yP (xg xs) (d + 1) 363 164 [(4, .int (1 : Int32)), (3, .int (1 : Int32)), (0, .int n), (1, .int x), (2, .int y)] [.int (w16 (x * y))] m _
            exact y_iret rfl rfl rfl (by refine ⟨congrArg (fun z => some (Value.int z)) ?_, rfl⟩; unfold two_ cmp_ shf_ shl_; grind)
          by_cases h34_3 : n = (3 : Int32)
          · refine y_tsw (t := 165) rfl rfl (by rw [h34_3]; rfl) ?_
            refine y_st rfl rfl rfl rfl rfl (fun _ _ => rfl) ?_
            refine y_st rfl rfl rfl rfl rfl (fun _ _ => rfl) ?_
            show yP (xg xs) (d + 1) 363 167 [(4, .int (1 : Int32)), (3, .int (1 : Int32)), (0, .int n), (1, .int x), (2, .int y)] [.int y, .int x] m _
            refine y_idiv rfl rfl (by grind) ?_
            show yP (xg xs) (d + 1) 363 168 [(4, .int (1 : Int32)), (3, .int (1 : Int32)), (0, .int n), (1, .int x), (2, .int y)] [.int (x / y)] m _
            refine y_call rfl rfl rfl rfl rfl (Nat.le_of_ble_eq_true rfl) (Nat.le_of_ble_eq_true rfl) rfl (by decide) (c362 xs d m (x / y)) (fun v48 m48 q48 => ?_)
            obtain ⟨rfl, e48⟩ := q48; rw [e48]; clear e48
            show yP (xg xs) (d + 1) 363 171 [(4, .int (1 : Int32)), (3, .int (1 : Int32)), (0, .int n), (1, .int x), (2, .int y)] [.int (w16 (x / y))] m _
            exact y_iret rfl rfl rfl (by refine ⟨congrArg (fun z => some (Value.int z)) ?_, rfl⟩; unfold two_ cmp_ shf_ shl_; grind)
          by_cases h34_4 : n = (4 : Int32)
          · refine y_tsw (t := 172) rfl rfl (by rw [h34_4]; rfl) ?_
            refine y_st rfl rfl rfl rfl rfl (fun _ _ => rfl) ?_
            refine y_st rfl rfl rfl rfl rfl (fun _ _ => rfl) ?_
            show yP (xg xs) (d + 1) 363 174 [(4, .int (1 : Int32)), (3, .int (1 : Int32)), (0, .int n), (1, .int x), (2, .int y)] [.int y, .int x] m _
            refine y_irem rfl rfl (by grind) ?_
            show yP (xg xs) (d + 1) 363 175 [(4, .int (1 : Int32)), (3, .int (1 : Int32)), (0, .int n), (1, .int x), (2, .int y)] [.int (x - x / y * y)] m _
            refine y_call rfl rfl rfl rfl rfl (Nat.le_of_ble_eq_true rfl) (Nat.le_of_ble_eq_true rfl) rfl (by decide) (c362 xs d m (x - x / y * y)) (fun v49 m49 q49 => ?_)
            obtain ⟨rfl, e49⟩ := q49; rw [e49]; clear e49
            show yP (xg xs) (d + 1) 363 178 [(4, .int (1 : Int32)), (3, .int (1 : Int32)), (0, .int n), (1, .int x), (2, .int y)] [.int (w16 (x - x / y * y))] m _
            exact y_iret rfl rfl rfl (by refine ⟨congrArg (fun z => some (Value.int z)) ?_, rfl⟩; unfold two_ cmp_ shf_ shl_; grind)
          by_cases h34_5 : n = (5 : Int32)
          · refine y_tsw (t := 179) rfl rfl (by rw [h34_5]; rfl) ?_
            refine y_st rfl rfl rfl rfl rfl (fun _ _ => rfl) ?_
            refine y_st rfl rfl rfl rfl rfl (fun _ _ => rfl) ?_
            refine y_st rfl rfl rfl rfl rfl (fun _ _ => rfl) ?_
            show yP (xg xs) (d + 1) 363 182 [(4, .int (1 : Int32)), (3, .int (1 : Int32)), (0, .int n), (1, .int x), (2, .int y)] [.int (x + y)] m _
            exact y_iret rfl rfl rfl (by refine ⟨congrArg (fun z => some (Value.int z)) ?_, rfl⟩; unfold two_ cmp_ shf_ shl_; grind)
          by_cases h34_6 : n = (6 : Int32)
          · refine y_tsw (t := 183) rfl rfl (by rw [h34_6]; rfl) ?_
            refine y_st rfl rfl rfl rfl rfl (fun _ _ => rfl) ?_
            refine y_st rfl rfl rfl rfl rfl (fun _ _ => rfl) ?_
            refine y_st rfl rfl rfl rfl rfl (fun _ _ => rfl) ?_
            show yP (xg xs) (d + 1) 363 186 [(4, .int (1 : Int32)), (3, .int (1 : Int32)), (0, .int n), (1, .int x), (2, .int y)] [.int (x - y)] m _
            exact y_iret rfl rfl rfl (by refine ⟨congrArg (fun z => some (Value.int z)) ?_, rfl⟩; unfold two_ cmp_ shf_ shl_; grind)
          by_cases h34_7 : n = (7 : Int32)
          · refine y_tsw (t := 187) rfl rfl (by rw [h34_7]; rfl) ?_
            refine y_st rfl rfl rfl rfl rfl (fun _ _ => rfl) ?_
            refine y_st rfl rfl rfl rfl rfl (fun _ _ => rfl) ?_
            refine y_st rfl rfl rfl rfl rfl (fun _ _ => rfl) ?_
            show yP (xg xs) (d + 1) 363 190 [(4, .int (1 : Int32)), (3, .int (1 : Int32)), (0, .int n), (1, .int x), (2, .int y)] [.int (x * y)] m _
            exact y_iret rfl rfl rfl (by refine ⟨congrArg (fun z => some (Value.int z)) ?_, rfl⟩; unfold two_ cmp_ shf_ shl_; grind)
          by_cases h34_8 : n = (8 : Int32)
          · refine y_tsw (t := 191) rfl rfl (by rw [h34_8]; rfl) ?_
            refine y_st rfl rfl rfl rfl rfl (fun _ _ => rfl) ?_
            refine y_st rfl rfl rfl rfl rfl (fun _ _ => rfl) ?_
            show yP (xg xs) (d + 1) 363 193 [(4, .int (1 : Int32)), (3, .int (1 : Int32)), (0, .int n), (1, .int x), (2, .int y)] [.int y, .int x] m _
            refine y_idiv rfl rfl (by grind) ?_
            show yP (xg xs) (d + 1) 363 194 [(4, .int (1 : Int32)), (3, .int (1 : Int32)), (0, .int n), (1, .int x), (2, .int y)] [.int (x / y)] m _
            exact y_iret rfl rfl rfl (by refine ⟨congrArg (fun z => some (Value.int z)) ?_, rfl⟩; unfold two_ cmp_ shf_ shl_; grind)
          by_cases h34_9 : n = (9 : Int32)
          · refine y_tsw (t := 195) rfl rfl (by rw [h34_9]; rfl) ?_
            refine y_st rfl rfl rfl rfl rfl (fun _ _ => rfl) ?_
            refine y_st rfl rfl rfl rfl rfl (fun _ _ => rfl) ?_
            show yP (xg xs) (d + 1) 363 197 [(4, .int (1 : Int32)), (3, .int (1 : Int32)), (0, .int n), (1, .int x), (2, .int y)] [.int y, .int x] m _
            refine y_irem rfl rfl (by grind) ?_
            show yP (xg xs) (d + 1) 363 198 [(4, .int (1 : Int32)), (3, .int (1 : Int32)), (0, .int n), (1, .int x), (2, .int y)] [.int (x - x / y * y)] m _
            exact y_iret rfl rfl rfl (by refine ⟨congrArg (fun z => some (Value.int z)) ?_, rfl⟩; unfold two_ cmp_ shf_ shl_; grind)
          by_cases h34_10 : n = (10 : Int32)
          · refine y_tsw (t := 199) rfl rfl (by rw [h34_10]; rfl) ?_
            refine y_st rfl rfl rfl rfl rfl (fun _ _ => rfl) ?_
            refine y_st rfl rfl rfl rfl rfl (fun _ _ => rfl) ?_
            refine y_st rfl rfl rfl rfl rfl (fun _ _ => rfl) ?_
            show yP (xg xs) (d + 1) 363 202 [(4, .int (1 : Int32)), (3, .int (1 : Int32)), (0, .int n), (1, .int x), (2, .int y)] [.int (x &&& y)] m _
            exact y_iret rfl rfl rfl (by refine ⟨congrArg (fun z => some (Value.int z)) ?_, rfl⟩; unfold two_ cmp_ shf_ shl_; grind)
          by_cases h34_11 : n = (11 : Int32)
          · refine y_tsw (t := 203) rfl rfl (by rw [h34_11]; rfl) ?_
            refine y_st rfl rfl rfl rfl rfl (fun _ _ => rfl) ?_
            refine y_st rfl rfl rfl rfl rfl (fun _ _ => rfl) ?_
            refine y_st rfl rfl rfl rfl rfl (fun _ _ => rfl) ?_
            show yP (xg xs) (d + 1) 363 206 [(4, .int (1 : Int32)), (3, .int (1 : Int32)), (0, .int n), (1, .int x), (2, .int y)] [.int (x ||| y)] m _
            exact y_iret rfl rfl rfl (by refine ⟨congrArg (fun z => some (Value.int z)) ?_, rfl⟩; unfold two_ cmp_ shf_ shl_; grind)
          by_cases h34_12 : n = (12 : Int32)
          · refine y_tsw (t := 207) rfl rfl (by rw [h34_12]; rfl) ?_
            refine y_st rfl rfl rfl rfl rfl (fun _ _ => rfl) ?_
            refine y_st rfl rfl rfl rfl rfl (fun _ _ => rfl) ?_
            refine y_st rfl rfl rfl rfl rfl (fun _ _ => rfl) ?_
            show yP (xg xs) (d + 1) 363 210 [(4, .int (1 : Int32)), (3, .int (1 : Int32)), (0, .int n), (1, .int x), (2, .int y)] [.int (x ^^^ y)] m _
            exact y_iret rfl rfl rfl (by refine ⟨congrArg (fun z => some (Value.int z)) ?_, rfl⟩; unfold two_ cmp_ shf_ shl_; grind)
          by_cases h34_13 : n = (13 : Int32)
          · refine y_tsw (t := 211) rfl rfl (by rw [h34_13]; rfl) ?_
            refine y_st rfl rfl rfl rfl rfl (fun _ _ => rfl) ?_
            refine y_st rfl rfl rfl rfl rfl (fun _ _ => rfl) ?_
            show yP (xg xs) (d + 1) 363 213 [(4, .int (1 : Int32)), (3, .int (1 : Int32)), (0, .int n), (1, .int x), (2, .int y)] [.int y, .int x] m _
            refine y_ine (t := 220) rfl rfl rfl (fun h213 => ?_) (fun h213 => ?_)
            · refine y_st rfl rfl rfl rfl rfl (fun _ _ => rfl) ?_
              show yP (xg xs) (d + 1) 363 221 [(4, .int (1 : Int32)), (3, .int (1 : Int32)), (0, .int n), (1, .int x), (2, .int y)] [.int (0 : Int32)] m _
              exact y_iret rfl rfl rfl (by refine ⟨congrArg (fun z => some (Value.int z)) ?_, rfl⟩; unfold two_ cmp_ shf_ shl_; grind)
            · refine y_st rfl rfl rfl rfl rfl (fun _ _ => rfl) ?_
              refine y_st rfl rfl rfl rfl rfl (fun _ _ => rfl) ?_
              show yP (xg xs) (d + 1) 363 221 [(4, .int (1 : Int32)), (3, .int (1 : Int32)), (0, .int n), (1, .int x), (2, .int y)] [.int (1 : Int32)] m _
              exact y_iret rfl rfl rfl (by refine ⟨congrArg (fun z => some (Value.int z)) ?_, rfl⟩; unfold two_ cmp_ shf_ shl_; grind)
          by_cases h34_14 : n = (14 : Int32)
          · refine y_tsw (t := 222) rfl rfl (by rw [h34_14]; rfl) ?_
            refine y_st rfl rfl rfl rfl rfl (fun _ _ => rfl) ?_
            refine y_st rfl rfl rfl rfl rfl (fun _ _ => rfl) ?_
            show yP (xg xs) (d + 1) 363 224 [(4, .int (1 : Int32)), (3, .int (1 : Int32)), (0, .int n), (1, .int x), (2, .int y)] [.int y, .int x] m _
            refine y_ieq (t := 231) rfl rfl rfl (fun h224 => ?_) (fun h224 => ?_)
            · refine y_st rfl rfl rfl rfl rfl (fun _ _ => rfl) ?_
              show yP (xg xs) (d + 1) 363 232 [(4, .int (1 : Int32)), (3, .int (1 : Int32)), (0, .int n), (1, .int x), (2, .int y)] [.int (0 : Int32)] m _
              exact y_iret rfl rfl rfl (by refine ⟨congrArg (fun z => some (Value.int z)) ?_, rfl⟩; unfold two_ cmp_ shf_ shl_; grind)
            · refine y_st rfl rfl rfl rfl rfl (fun _ _ => rfl) ?_
              refine y_st rfl rfl rfl rfl rfl (fun _ _ => rfl) ?_
              show yP (xg xs) (d + 1) 363 232 [(4, .int (1 : Int32)), (3, .int (1 : Int32)), (0, .int n), (1, .int x), (2, .int y)] [.int (1 : Int32)] m _
              exact y_iret rfl rfl rfl (by refine ⟨congrArg (fun z => some (Value.int z)) ?_, rfl⟩; unfold two_ cmp_ shf_ shl_; grind)
          by_cases h34_15 : n = (15 : Int32)
          · refine y_tsw (t := 233) rfl rfl (by rw [h34_15]; rfl) ?_
            refine y_st rfl rfl rfl rfl rfl (fun _ _ => rfl) ?_
            refine y_st rfl rfl rfl rfl rfl (fun _ _ => rfl) ?_
            show yP (xg xs) (d + 1) 363 235 [(4, .int (1 : Int32)), (3, .int (1 : Int32)), (0, .int n), (1, .int x), (2, .int y)] [.int y, .int x] m _
            refine y_ige (t := 242) rfl rfl rfl (fun h235 => ?_) (fun h235 => ?_)
            · refine y_st rfl rfl rfl rfl rfl (fun _ _ => rfl) ?_
              show yP (xg xs) (d + 1) 363 243 [(4, .int (1 : Int32)), (3, .int (1 : Int32)), (0, .int n), (1, .int x), (2, .int y)] [.int (0 : Int32)] m _
              exact y_iret rfl rfl rfl (by refine ⟨congrArg (fun z => some (Value.int z)) ?_, rfl⟩; unfold two_ cmp_ shf_ shl_; grind)
            · refine y_st rfl rfl rfl rfl rfl (fun _ _ => rfl) ?_
              refine y_st rfl rfl rfl rfl rfl (fun _ _ => rfl) ?_
              show yP (xg xs) (d + 1) 363 243 [(4, .int (1 : Int32)), (3, .int (1 : Int32)), (0, .int n), (1, .int x), (2, .int y)] [.int (1 : Int32)] m _
              exact y_iret rfl rfl rfl (by refine ⟨congrArg (fun z => some (Value.int z)) ?_, rfl⟩; unfold two_ cmp_ shf_ shl_; grind)
          by_cases h34_16 : n = (16 : Int32)
          · refine y_tsw (t := 244) rfl rfl (by rw [h34_16]; rfl) ?_
            refine y_st rfl rfl rfl rfl rfl (fun _ _ => rfl) ?_
            refine y_st rfl rfl rfl rfl rfl (fun _ _ => rfl) ?_
            show yP (xg xs) (d + 1) 363 246 [(4, .int (1 : Int32)), (3, .int (1 : Int32)), (0, .int n), (1, .int x), (2, .int y)] [.int y, .int x] m _
            refine y_ile (t := 253) rfl rfl rfl (fun h246 => ?_) (fun h246 => ?_)
            · refine y_st rfl rfl rfl rfl rfl (fun _ _ => rfl) ?_
              show yP (xg xs) (d + 1) 363 254 [(4, .int (1 : Int32)), (3, .int (1 : Int32)), (0, .int n), (1, .int x), (2, .int y)] [.int (0 : Int32)] m _
              exact y_iret rfl rfl rfl (by refine ⟨congrArg (fun z => some (Value.int z)) ?_, rfl⟩; unfold two_ cmp_ shf_ shl_; grind)
            · refine y_st rfl rfl rfl rfl rfl (fun _ _ => rfl) ?_
              refine y_st rfl rfl rfl rfl rfl (fun _ _ => rfl) ?_
              show yP (xg xs) (d + 1) 363 254 [(4, .int (1 : Int32)), (3, .int (1 : Int32)), (0, .int n), (1, .int x), (2, .int y)] [.int (1 : Int32)] m _
              exact y_iret rfl rfl rfl (by refine ⟨congrArg (fun z => some (Value.int z)) ?_, rfl⟩; unfold two_ cmp_ shf_ shl_; grind)
          by_cases h34_17 : n = (17 : Int32)
          · refine y_tsw (t := 255) rfl rfl (by rw [h34_17]; rfl) ?_
            refine y_st rfl rfl rfl rfl rfl (fun _ _ => rfl) ?_
            refine y_st rfl rfl rfl rfl rfl (fun _ _ => rfl) ?_
            show yP (xg xs) (d + 1) 363 257 [(4, .int (1 : Int32)), (3, .int (1 : Int32)), (0, .int n), (1, .int x), (2, .int y)] [.int y, .int x] m _
            refine y_igt (t := 264) rfl rfl rfl (fun h257 => ?_) (fun h257 => ?_)
            · refine y_st rfl rfl rfl rfl rfl (fun _ _ => rfl) ?_
              show yP (xg xs) (d + 1) 363 265 [(4, .int (1 : Int32)), (3, .int (1 : Int32)), (0, .int n), (1, .int x), (2, .int y)] [.int (0 : Int32)] m _
              exact y_iret rfl rfl rfl (by refine ⟨congrArg (fun z => some (Value.int z)) ?_, rfl⟩; unfold two_ cmp_ shf_ shl_; grind)
            · refine y_st rfl rfl rfl rfl rfl (fun _ _ => rfl) ?_
              refine y_st rfl rfl rfl rfl rfl (fun _ _ => rfl) ?_
              show yP (xg xs) (d + 1) 363 265 [(4, .int (1 : Int32)), (3, .int (1 : Int32)), (0, .int n), (1, .int x), (2, .int y)] [.int (1 : Int32)] m _
              exact y_iret rfl rfl rfl (by refine ⟨congrArg (fun z => some (Value.int z)) ?_, rfl⟩; unfold two_ cmp_ shf_ shl_; grind)
          by_cases h34_18 : n = (18 : Int32)
          · refine y_tsw (t := 266) rfl rfl (by rw [h34_18]; rfl) ?_
            refine y_st rfl rfl rfl rfl rfl (fun _ _ => rfl) ?_
            refine y_st rfl rfl rfl rfl rfl (fun _ _ => rfl) ?_
            show yP (xg xs) (d + 1) 363 268 [(4, .int (1 : Int32)), (3, .int (1 : Int32)), (0, .int n), (1, .int x), (2, .int y)] [.int y, .int x] m _
            refine y_ilt (t := 275) rfl rfl rfl (fun h268 => ?_) (fun h268 => ?_)
            · refine y_st rfl rfl rfl rfl rfl (fun _ _ => rfl) ?_
              show yP (xg xs) (d + 1) 363 276 [(4, .int (1 : Int32)), (3, .int (1 : Int32)), (0, .int n), (1, .int x), (2, .int y)] [.int (0 : Int32)] m _
              exact y_iret rfl rfl rfl (by refine ⟨congrArg (fun z => some (Value.int z)) ?_, rfl⟩; unfold two_ cmp_ shf_ shl_; grind)
            · refine y_st rfl rfl rfl rfl rfl (fun _ _ => rfl) ?_
              refine y_st rfl rfl rfl rfl rfl (fun _ _ => rfl) ?_
              show yP (xg xs) (d + 1) 363 276 [(4, .int (1 : Int32)), (3, .int (1 : Int32)), (0, .int n), (1, .int x), (2, .int y)] [.int (1 : Int32)] m _
              exact y_iret rfl rfl rfl (by refine ⟨congrArg (fun z => some (Value.int z)) ?_, rfl⟩; unfold two_ cmp_ shf_ shl_; grind)
          by_cases h34_19 : n = (19 : Int32)
          · refine y_tsw (t := 277) rfl rfl (by rw [h34_19]; rfl) ?_
            refine y_st rfl rfl rfl rfl rfl (fun _ _ => rfl) ?_
            show yP (xg xs) (d + 1) 363 278 [(4, .int (1 : Int32)), (3, .int (1 : Int32)), (0, .int n), (1, .int x), (2, .int y)] [.int (1 : Int32)] m _
            refine y_zeq (t := 290) rfl rfl rfl (fun h278 => ?_) (fun h278 => ?_)
            · exact absurd h278 (by decide)
            · refine y_st rfl rfl rfl rfl rfl (fun _ _ => rfl) ?_
              refine y_st rfl rfl rfl rfl rfl (fun _ _ => rfl) ?_
              refine y_st rfl rfl rfl rfl rfl (fun _ _ => rfl) ?_
              show yP (xg xs) (d + 1) 363 284 [(4, .int (1 : Int32)), (3, .int (1 : Int32)), (0, .int n), (1, .int x), (2, .int y)] [.int (x <<< (y &&& 31))] m _
              refine y_call rfl rfl rfl rfl rfl (Nat.le_of_ble_eq_true rfl) (Nat.le_of_ble_eq_true rfl) rfl (by decide) (c362 xs d m (x <<< (y &&& 31))) (fun v50 m50 q50 => ?_)
              obtain ⟨rfl, e50⟩ := q50; rw [e50]; clear e50
              refine y_st rfl rfl rfl rfl rfl (fun _ _ => rfl) ?_
              show yP (xg xs) (d + 1) 363 291 [(4, .int (1 : Int32)), (3, .int (1 : Int32)), (0, .int n), (1, .int x), (2, .int y)] [.int (w16 (x <<< (y &&& 31)))] m _
              exact y_iret rfl rfl rfl (by refine ⟨congrArg (fun z => some (Value.int z)) ?_, rfl⟩; unfold two_ cmp_ shf_ shl_; grind)
          by_cases h34_20 : n = (20 : Int32)
          · refine y_tsw (t := 292) rfl rfl (by rw [h34_20]; rfl) ?_
            refine y_st rfl rfl rfl rfl rfl (fun _ _ => rfl) ?_
            show yP (xg xs) (d + 1) 363 293 [(4, .int (1 : Int32)), (3, .int (1 : Int32)), (0, .int n), (1, .int x), (2, .int y)] [.int (1 : Int32)] m _
            refine y_zeq (t := 309) rfl rfl rfl (fun h293 => ?_) (fun h293 => ?_)
            · exact absurd h293 (by decide)
            · refine y_st rfl rfl rfl rfl rfl (fun _ _ => rfl) ?_
              refine y_st rfl rfl rfl rfl rfl (fun _ _ => rfl) ?_
              refine y_st rfl rfl rfl rfl rfl (fun _ _ => rfl) ?_
              refine y_st rfl rfl rfl rfl rfl (fun _ _ => rfl) ?_
              refine y_st rfl rfl rfl rfl rfl (fun _ _ => rfl) ?_
              show yP (xg xs) (d + 1) 363 303 [(4, .int (1 : Int32)), (3, .int (1 : Int32)), (0, .int n), (1, .int x), (2, .int y)] [.int ((x &&& (65535 : Int32)) >>> (y &&& 31))] m _
              refine y_call rfl rfl rfl rfl rfl (Nat.le_of_ble_eq_true rfl) (Nat.le_of_ble_eq_true rfl) rfl (by decide) (c362 xs d m ((x &&& (65535 : Int32)) >>> (y &&& 31))) (fun v51 m51 q51 => ?_)
              obtain ⟨rfl, e51⟩ := q51; rw [e51]; clear e51
              refine y_st rfl rfl rfl rfl rfl (fun _ _ => rfl) ?_
              show yP (xg xs) (d + 1) 363 310 [(4, .int (1 : Int32)), (3, .int (1 : Int32)), (0, .int n), (1, .int x), (2, .int y)] [.int (w16 ((x &&& (65535 : Int32)) >>> (y &&& 31)))] m _
              exact y_iret rfl rfl rfl (by refine ⟨congrArg (fun z => some (Value.int z)) ?_, rfl⟩; unfold two_ cmp_ shf_ shl_; grind)
          by_cases h34_21 : n = (21 : Int32)
          · refine y_tsw (t := 311) rfl rfl (by rw [h34_21]; rfl) ?_
            refine y_st rfl rfl rfl rfl rfl (fun _ _ => rfl) ?_
            show yP (xg xs) (d + 1) 363 313 [(4, .int (1 : Int32)), (3, .int (1 : Int32)), (0, .int n), (1, .int x), (2, .int y)] [.int (1 : Int32)] m _
            refine y_zeq (t := 322) rfl rfl rfl (fun h313 => ?_) (fun h313 => ?_)
            · exact absurd h313 (by decide)
            · refine y_st rfl rfl rfl rfl rfl (fun _ _ => rfl) ?_
              refine y_st rfl rfl rfl rfl rfl (fun _ _ => rfl) ?_
              refine y_st rfl rfl rfl rfl rfl (fun _ _ => rfl) ?_
              refine y_st rfl rfl rfl rfl rfl (fun _ _ => rfl) ?_
              show yP (xg xs) (d + 1) 363 323 [(4, .int (1 : Int32)), (3, .int (1 : Int32)), (0, .int n), (1, .int x), (2, .int y)] [.int (x <<< (y &&& 31))] m _
              exact y_iret rfl rfl rfl (by refine ⟨congrArg (fun z => some (Value.int z)) ?_, rfl⟩; unfold two_ cmp_ shf_ shl_; grind)
          by_cases h34_22 : n = (22 : Int32)
          · refine y_tsw (t := 324) rfl rfl (by rw [h34_22]; rfl) ?_
            refine y_st rfl rfl rfl rfl rfl (fun _ _ => rfl) ?_
            show yP (xg xs) (d + 1) 363 326 [(4, .int (1 : Int32)), (3, .int (1 : Int32)), (0, .int n), (1, .int x), (2, .int y)] [.int (1 : Int32)] m _
            refine y_zeq (t := 335) rfl rfl rfl (fun h326 => ?_) (fun h326 => ?_)
            · exact absurd h326 (by decide)
            · refine y_st rfl rfl rfl rfl rfl (fun _ _ => rfl) ?_
              refine y_st rfl rfl rfl rfl rfl (fun _ _ => rfl) ?_
              refine y_st rfl rfl rfl rfl rfl (fun _ _ => rfl) ?_
              refine y_st rfl rfl rfl rfl rfl (fun _ _ => rfl) ?_
              show yP (xg xs) (d + 1) 363 336 [(4, .int (1 : Int32)), (3, .int (1 : Int32)), (0, .int n), (1, .int x), (2, .int y)] [.int ((x.toUInt32 >>> (y.toUInt32 &&& Int32.toUInt32 31)).toInt32)] m _
              exact y_iret rfl rfl rfl (by refine ⟨congrArg (fun z => some (Value.int z)) ?_, rfl⟩; unfold two_ cmp_ shf_ shl_; grind)
          by_cases h34_23 : n = (23 : Int32)
          · refine y_tsw (t := 337) rfl rfl (by rw [h34_23]; rfl) ?_
            refine y_st rfl rfl rfl rfl rfl (fun _ _ => rfl) ?_
            refine y_st rfl rfl rfl rfl rfl (fun _ _ => rfl) ?_
            show yP (xg xs) (d + 1) 363 339 [(4, .int (1 : Int32)), (3, .int (1 : Int32)), (0, .int n), (1, .int x), (2, .int y)] [.int y, .int x] m _
            refine y_ige (t := 346) rfl rfl rfl (fun h339 => ?_) (fun h339 => ?_)
            · refine y_st rfl rfl rfl rfl rfl (fun _ _ => rfl) ?_
              show yP (xg xs) (d + 1) 363 347 [(4, .int (1 : Int32)), (3, .int (1 : Int32)), (0, .int n), (1, .int x), (2, .int y)] [.int y] m _
              exact y_iret rfl rfl rfl (by refine ⟨congrArg (fun z => some (Value.int z)) ?_, rfl⟩; unfold two_ cmp_ shf_ shl_; grind)
            · refine y_st rfl rfl rfl rfl rfl (fun _ _ => rfl) ?_
              refine y_st rfl rfl rfl rfl rfl (fun _ _ => rfl) ?_
              show yP (xg xs) (d + 1) 363 347 [(4, .int (1 : Int32)), (3, .int (1 : Int32)), (0, .int n), (1, .int x), (2, .int y)] [.int x] m _
              exact y_iret rfl rfl rfl (by refine ⟨congrArg (fun z => some (Value.int z)) ?_, rfl⟩; unfold two_ cmp_ shf_ shl_; grind)
          refine y_tsw (t := 348) rfl rfl ((if_pos (by have g0 := ne_lit (0 : Int32) 0 rfl h34_0; have g1 := ne_lit (1 : Int32) 1 rfl h34_1; have g2 := ne_lit (2 : Int32) 2 rfl h34_2; have g3 := ne_lit (3 : Int32) 3 rfl h34_3; have g4 := ne_lit (4 : Int32) 4 rfl h34_4; have g5 := ne_lit (5 : Int32) 5 rfl h34_5; have g6 := ne_lit (6 : Int32) 6 rfl h34_6; have g7 := ne_lit (7 : Int32) 7 rfl h34_7; have g8 := ne_lit (8 : Int32) 8 rfl h34_8; have g9 := ne_lit (9 : Int32) 9 rfl h34_9; have g10 := ne_lit (10 : Int32) 10 rfl h34_10; have g11 := ne_lit (11 : Int32) 11 rfl h34_11; have g12 := ne_lit (12 : Int32) 12 rfl h34_12; have g13 := ne_lit (13 : Int32) 13 rfl h34_13; have g14 := ne_lit (14 : Int32) 14 rfl h34_14; have g15 := ne_lit (15 : Int32) 15 rfl h34_15; have g16 := ne_lit (16 : Int32) 16 rfl h34_16; have g17 := ne_lit (17 : Int32) 17 rfl h34_17; have g18 := ne_lit (18 : Int32) 18 rfl h34_18; have g19 := ne_lit (19 : Int32) 19 rfl h34_19; have g20 := ne_lit (20 : Int32) 20 rfl h34_20; have g21 := ne_lit (21 : Int32) 21 rfl h34_21; have g22 := ne_lit (22 : Int32) 22 rfl h34_22; have g23 := ne_lit (23 : Int32) 23 rfl h34_23; omega)).trans rfl) ?_
          refine y_st rfl rfl rfl rfl rfl (fun _ _ => rfl) ?_
          refine y_st rfl rfl rfl rfl rfl (fun _ _ => rfl) ?_
          show yP (xg xs) (d + 1) 363 350 [(4, .int (1 : Int32)), (3, .int (1 : Int32)), (0, .int n), (1, .int x), (2, .int y)] [.int y, .int x] m _
          refine y_ile (t := 357) rfl rfl rfl (fun h350 => ?_) (fun h350 => ?_)
          · refine y_st rfl rfl rfl rfl rfl (fun _ _ => rfl) ?_
            show yP (xg xs) (d + 1) 363 358 [(4, .int (1 : Int32)), (3, .int (1 : Int32)), (0, .int n), (1, .int x), (2, .int y)] [.int y] m _
            exact y_iret rfl rfl rfl (by refine ⟨congrArg (fun z => some (Value.int z)) ?_, rfl⟩; unfold two_ cmp_ shf_ shl_; grind)
          · refine y_st rfl rfl rfl rfl rfl (fun _ _ => rfl) ?_
            refine y_st rfl rfl rfl rfl rfl (fun _ _ => rfl) ?_
            show yP (xg xs) (d + 1) 363 358 [(4, .int (1 : Int32)), (3, .int (1 : Int32)), (0, .int n), (1, .int x), (2, .int y)] [.int x] m _
            exact y_iret rfl rfl rfl (by refine ⟨congrArg (fun z => some (Value.int z)) ?_, rfl⟩; unfold two_ cmp_ shf_ shl_; grind)
