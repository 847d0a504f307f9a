/-! TWO of the class: laid by wip/gen/small7.py -/
def cmp_ (n x y : Int32) : Int32 := if n = 13 then (if x = y then 1 else 0) else if n = 14 then (if x = y then 0 else 1) else if n = 15 then (if x < y then 1 else 0) else if n = 16 then (if y < x then 1 else 0) else if n = 17 then (if x ≤ y then 1 else 0) else if y ≤ x then 1 else 0
def shl_ (x y : Int32) : Int32 := x <<< (y &&& 31)
def shr_ (x y : Int32) : Int32 := (x.toUInt32 >>> (y.toUInt32 &&& Int32.toUInt32 31)).toInt32
def shf_ (n x y : Int32) : Int32 := if n = 23 then (if y < x then y else x) else if 23 ≤ n then (if x < y then y else x) else if y < 0 ∨ (if n < 21 then 15 else 31) < y then 0 else if n = 19 then w16 (shl_ x y) else if n = 20 then w16 (shr_ (x &&& 65535) y) else if n = 21 then shl_ x y else shr_ x y
def two_ (n x y : Int32) : Int32 := if n = 0 then w16 (x + y) else if n = 1 then w16 (x - y) else if n = 2 then w16 (x * y) else if n = 3 then (if y = 0 then 0 else w16 (x / y)) else if n = 4 then (if y = 0 then 0 else w16 (x - x / y * y)) else if n = 5 then x + y else if n = 6 then x - y else if n = 7 then x * y else if n = 8 then (if y = 0 then 0 else x / y) else if n = 9 then (if y = 0 then 0 else x - x / y * y) else if n = 10 then x &&& y else if n = 11 then x ||| y else if n = 12 then x ^^^ y else if n < 19 then cmp_ n x y else shf_ n x y
set_option maxRecDepth 20000 in
/-- Machine.compared -/
theorem c176 (xs : List Int32) (d : Nat) (m : yM) (n x y : Int32) : yC (xg xs) d 176 [.int n, .int x, .int y] m (fun r m' => r = some (.int (cmp_ n x y)) ∧ m' = m) := by
  refine y_st rfl rfl rfl rfl rfl (fun _ _ => rfl) ?_
  show yP (xg xs) d 176 1 [(0, .int n), (1, .int x), (2, .int y)] [.int n] m _
  by_cases h1_13 : n = (13 : Int32)
  · refine y_tsw (t := 36) rfl rfl (by rw [h1_13]; rfl) ?_
    refine y_st rfl rfl rfl rfl rfl (fun _ _ => rfl) ?_
    refine y_st rfl rfl rfl rfl rfl (fun _ _ => rfl) ?_
    show yP (xg xs) d 176 38 [(0, .int n), (1, .int x), (2, .int y)] [.int y, .int x] m _
    refine y_ine (t := 45) rfl rfl rfl (fun h38 => ?_) (fun h38 => ?_)
    · refine y_st rfl rfl rfl rfl rfl (fun _ _ => rfl) ?_
      refine y_st rfl rfl rfl rfl rfl (fun _ _ => rfl) ?_
      refine y_st rfl rfl rfl rfl rfl (fun _ _ => rfl) ?_
      refine y_st rfl rfl rfl rfl rfl (fun _ _ => rfl) ?_
      show yP (xg xs) d 176 118 [(3, .int (0 : Int32)), (0, .int n), (1, .int x), (2, .int y)] [.int (0 : Int32)] m _
      refine y_zeq (t := 125) rfl rfl rfl (fun h118 => ?_) (fun h118 => ?_)
      · refine y_st rfl rfl rfl rfl rfl (fun _ _ => rfl) ?_
        show yP (xg xs) d 176 126 [(3, .int (0 : Int32)), (0, .int n), (1, .int x), (2, .int y)] [.int (0 : Int32)] m _
        exact y_iret rfl rfl rfl (by refine ⟨congrArg (fun z => some (Value.int z)) ?_, rfl⟩; unfold cmp_; grind)
      · exact absurd h118 (by decide)
    · refine y_st rfl rfl rfl rfl rfl (fun _ _ => rfl) ?_
      refine y_st rfl rfl rfl rfl rfl (fun _ _ => rfl) ?_
      refine y_st rfl rfl rfl rfl rfl (fun _ _ => rfl) ?_
      refine y_st rfl rfl rfl rfl rfl (fun _ _ => rfl) ?_
      refine y_st rfl rfl rfl rfl rfl (fun _ _ => rfl) ?_
      show yP (xg xs) d 176 118 [(3, .int (1 : Int32)), (0, .int n), (1, .int x), (2, .int y)] [.int (1 : Int32)] m _
      refine y_zeq (t := 125) rfl rfl rfl (fun h118 => ?_) (fun h118 => ?_)
      · exact absurd h118 (by decide)
      · refine y_st rfl rfl rfl rfl rfl (fun _ _ => rfl) ?_
        refine y_st rfl rfl rfl rfl rfl (fun _ _ => rfl) ?_
        show yP (xg xs) d 176 126 [(3, .int (1 : Int32)), (0, .int n), (1, .int x), (2, .int y)] [.int (1 : Int32)] m _
        exact y_iret rfl rfl rfl (by refine ⟨congrArg (fun z => some (Value.int z)) ?_, rfl⟩; unfold cmp_; grind)
  by_cases h1_14 : n = (14 : Int32)
  · refine y_tsw (t := 50) rfl rfl (by rw [h1_14]; rfl) ?_
    refine y_st rfl rfl rfl rfl rfl (fun _ _ => rfl) ?_
    refine y_st rfl rfl rfl rfl rfl (fun _ _ => rfl) ?_
    show yP (xg xs) d 176 52 [(0, .int n), (1, .int x), (2, .int y)] [.int y, .int x] m _
    refine y_ieq (t := 59) rfl rfl rfl (fun h52 => ?_) (fun h52 => ?_)
    · refine y_st rfl rfl rfl rfl rfl (fun _ _ => rfl) ?_
      refine y_st rfl rfl rfl rfl rfl (fun _ _ => rfl) ?_
      refine y_st rfl rfl rfl rfl rfl (fun _ _ => rfl) ?_
      refine y_st rfl rfl rfl rfl rfl (fun _ _ => rfl) ?_
      show yP (xg xs) d 176 118 [(3, .int (0 : Int32)), (0, .int n), (1, .int x), (2, .int y)] [.int (0 : Int32)] m _
      refine y_zeq (t := 125) rfl rfl rfl (fun h118 => ?_) (fun h118 => ?_)
      · refine y_st rfl rfl rfl rfl rfl (fun _ _ => rfl) ?_
        show yP (xg xs) d 176 126 [(3, .int (0 : Int32)), (0, .int n), (1, .int x), (2, .int y)] [.int (0 : Int32)] m _
        exact y_iret rfl rfl rfl (by refine ⟨congrArg (fun z => some (Value.int z)) ?_, rfl⟩; unfold cmp_; grind)
      · exact absurd h118 (by decide)
    · refine y_st rfl rfl rfl rfl rfl (fun _ _ => rfl) ?_
      refine y_st rfl rfl rfl rfl rfl (fun _ _ => rfl) ?_
      refine y_st rfl rfl rfl rfl rfl (fun _ _ => rfl) ?_
      refine y_st rfl rfl rfl rfl rfl (fun _ _ => rfl) ?_
      refine y_st rfl rfl rfl rfl rfl (fun _ _ => rfl) ?_
      show yP (xg xs) d 176 118 [(3, .int (1 : Int32)), (0, .int n), (1, .int x), (2, .int y)] [.int (1 : Int32)] m _
      refine y_zeq (t := 125) rfl rfl rfl (fun h118 => ?_) (fun h118 => ?_)
      · exact absurd h118 (by decide)
      · refine y_st rfl rfl rfl rfl rfl (fun _ _ => rfl) ?_
        refine y_st rfl rfl rfl rfl rfl (fun _ _ => rfl) ?_
        show yP (xg xs) d 176 126 [(3, .int (1 : Int32)), (0, .int n), (1, .int x), (2, .int y)] [.int (1 : Int32)] m _
        exact y_iret rfl rfl rfl (by refine ⟨congrArg (fun z => some (Value.int z)) ?_, rfl⟩; unfold cmp_; grind)
  by_cases h1_15 : n = (15 : Int32)
  · refine y_tsw (t := 64) rfl rfl (by rw [h1_15]; rfl) ?_
    refine y_st rfl rfl rfl rfl rfl (fun _ _ => rfl) ?_
    refine y_st rfl rfl rfl rfl rfl (fun _ _ => rfl) ?_
    show yP (xg xs) d 176 66 [(0, .int n), (1, .int x), (2, .int y)] [.int y, .int x] m _
    refine y_ige (t := 73) rfl rfl rfl (fun h66 => ?_) (fun h66 => ?_)
    · refine y_st rfl rfl rfl rfl rfl (fun _ _ => rfl) ?_
      refine y_st rfl rfl rfl rfl rfl (fun _ _ => rfl) ?_
      refine y_st rfl rfl rfl rfl rfl (fun _ _ => rfl) ?_
      refine y_st rfl rfl rfl rfl rfl (fun _ _ => rfl) ?_
      show yP (xg xs) d 176 118 [(3, .int (0 : Int32)), (0, .int n), (1, .int x), (2, .int y)] [.int (0 : Int32)] m _
      refine y_zeq (t := 125) rfl rfl rfl (fun h118 => ?_) (fun h118 => ?_)
      · refine y_st rfl rfl rfl rfl rfl (fun _ _ => rfl) ?_
        show yP (xg xs) d 176 126 [(3, .int (0 : Int32)), (0, .int n), (1, .int x), (2, .int y)] [.int (0 : Int32)] m _
        exact y_iret rfl rfl rfl (by refine ⟨congrArg (fun z => some (Value.int z)) ?_, rfl⟩; unfold cmp_; grind)
      · exact absurd h118 (by decide)
    · refine y_st rfl rfl rfl rfl rfl (fun _ _ => rfl) ?_
      refine y_st rfl rfl rfl rfl rfl (fun _ _ => rfl) ?_
      refine y_st rfl rfl rfl rfl rfl (fun _ _ => rfl) ?_
      refine y_st rfl rfl rfl rfl rfl (fun _ _ => rfl) ?_
      refine y_st rfl rfl rfl rfl rfl (fun _ _ => rfl) ?_
      show yP (xg xs) d 176 118 [(3, .int (1 : Int32)), (0, .int n), (1, .int x), (2, .int y)] [.int (1 : Int32)] m _
      refine y_zeq (t := 125) rfl rfl rfl (fun h118 => ?_) (fun h118 => ?_)
      · exact absurd h118 (by decide)
      · refine y_st rfl rfl rfl rfl rfl (fun _ _ => rfl) ?_
        refine y_st rfl rfl rfl rfl rfl (fun _ _ => rfl) ?_
        show yP (xg xs) d 176 126 [(3, .int (1 : Int32)), (0, .int n), (1, .int x), (2, .int y)] [.int (1 : Int32)] m _
        exact y_iret rfl rfl rfl (by refine ⟨congrArg (fun z => some (Value.int z)) ?_, rfl⟩; unfold cmp_; grind)
  by_cases h1_16 : n = (16 : Int32)
  · refine y_tsw (t := 78) rfl rfl (by rw [h1_16]; rfl) ?_
    refine y_st rfl rfl rfl rfl rfl (fun _ _ => rfl) ?_
    refine y_st rfl rfl rfl rfl rfl (fun _ _ => rfl) ?_
    show yP (xg xs) d 176 80 [(0, .int n), (1, .int x), (2, .int y)] [.int y, .int x] m _
    refine y_ile (t := 87) rfl rfl rfl (fun h80 => ?_) (fun h80 => ?_)
    · refine y_st rfl rfl rfl rfl rfl (fun _ _ => rfl) ?_
      refine y_st rfl rfl rfl rfl rfl (fun _ _ => rfl) ?_
      refine y_st rfl rfl rfl rfl rfl (fun _ _ => rfl) ?_
      refine y_st rfl rfl rfl rfl rfl (fun _ _ => rfl) ?_
      show yP (xg xs) d 176 118 [(3, .int (0 : Int32)), (0, .int n), (1, .int x), (2, .int y)] [.int (0 : Int32)] m _
      refine y_zeq (t := 125) rfl rfl rfl (fun h118 => ?_) (fun h118 => ?_)
      · refine y_st rfl rfl rfl rfl rfl (fun _ _ => rfl) ?_
        show yP (xg xs) d 176 126 [(3, .int (0 : Int32)), (0, .int n), (1, .int x), (2, .int y)] [.int (0 : Int32)] m _
        exact y_iret rfl rfl rfl (by refine ⟨congrArg (fun z => some (Value.int z)) ?_, rfl⟩; unfold cmp_; grind)
      · exact absurd h118 (by decide)
    · refine y_st rfl rfl rfl rfl rfl (fun _ _ => rfl) ?_
      refine y_st rfl rfl rfl rfl rfl (fun _ _ => rfl) ?_
      refine y_st rfl rfl rfl rfl rfl (fun _ _ => rfl) ?_
      refine y_st rfl rfl rfl rfl rfl (fun _ _ => rfl) ?_
      refine y_st rfl rfl rfl rfl rfl (fun _ _ => rfl) ?_
      show yP (xg xs) d 176 118 [(3, .int (1 : Int32)), (0, .int n), (1, .int x), (2, .int y)] [.int (1 : Int32)] m _
      refine y_zeq (t := 125) rfl rfl rfl (fun h118 => ?_) (fun h118 => ?_)
      · exact absurd h118 (by decide)
      · refine y_st rfl rfl rfl rfl rfl (fun _ _ => rfl) ?_
        refine y_st rfl rfl rfl rfl rfl (fun _ _ => rfl) ?_
        show yP (xg xs) d 176 126 [(3, .int (1 : Int32)), (0, .int n), (1, .int x), (2, .int y)] [.int (1 : Int32)] m _
        exact y_iret rfl rfl rfl (by refine ⟨congrArg (fun z => some (Value.int z)) ?_, rfl⟩; unfold cmp_; grind)
  by_cases h1_17 : n = (17 : Int32)
  · refine y_tsw (t := 92) rfl rfl (by rw [h1_17]; rfl) ?_
    refine y_st rfl rfl rfl rfl rfl (fun _ _ => rfl) ?_
    refine y_st rfl rfl rfl rfl rfl (fun _ _ => rfl) ?_
    show yP (xg xs) d 176 94 [(0, .int n), (1, .int x), (2, .int y)] [.int y, .int x] m _
    refine y_igt (t := 101) rfl rfl rfl (fun h94 => ?_) (fun h94 => ?_)
    · refine y_st rfl rfl rfl rfl rfl (fun _ _ => rfl) ?_
      refine y_st rfl rfl rfl rfl rfl (fun _ _ => rfl) ?_
      refine y_st rfl rfl rfl rfl rfl (fun _ _ => rfl) ?_
      refine y_st rfl rfl rfl rfl rfl (fun _ _ => rfl) ?_
      show yP (xg xs) d 176 118 [(3, .int (0 : Int32)), (0, .int n), (1, .int x), (2, .int y)] [.int (0 : Int32)] m _
      refine y_zeq (t := 125) rfl rfl rfl (fun h118 => ?_) (fun h118 => ?_)
      · refine y_st rfl rfl rfl rfl rfl (fun _ _ => rfl) ?_
        show yP (xg xs) d 176 126 [(3, .int (0 : Int32)), (0, .int n), (1, .int x), (2, .int y)] [.int (0 : Int32)] m _
        exact y_iret rfl rfl rfl (by refine ⟨congrArg (fun z => some (Value.int z)) ?_, rfl⟩; unfold cmp_; grind)
      · exact absurd h118 (by decide)
    · refine y_st rfl rfl rfl rfl rfl (fun _ _ => rfl) ?_
      refine y_st rfl rfl rfl rfl rfl (fun _ _ => rfl) ?_
      refine y_st rfl rfl rfl rfl rfl (fun _ _ => rfl) ?_
      refine y_st rfl rfl rfl rfl rfl (fun _ _ => rfl) ?_
      refine y_st rfl rfl rfl rfl rfl (fun _ _ => rfl) ?_
      show yP (xg xs) d 176 118 [(3, .int (1 : Int32)), (0, .int n), (1, .int x), (2, .int y)] [.int (1 : Int32)] m _
      refine y_zeq (t := 125) rfl rfl rfl (fun h118 => ?_) (fun h118 => ?_)
      · exact absurd h118 (by decide)
      · refine y_st rfl rfl rfl rfl rfl (fun _ _ => rfl) ?_
        refine y_st rfl rfl rfl rfl rfl (fun _ _ => rfl) ?_
        show yP (xg xs) d 176 126 [(3, .int (1 : Int32)), (0, .int n), (1, .int x), (2, .int y)] [.int (1 : Int32)] m _
        exact y_iret rfl rfl rfl (by refine ⟨congrArg (fun z => some (Value.int z)) ?_, rfl⟩; unfold cmp_; grind)
  refine y_tsw (t := 106) rfl rfl ((if_pos (by have g0 := ne_lit (13 : Int32) 13 rfl h1_13; have g1 := ne_lit (14 : Int32) 14 rfl h1_14; have g2 := ne_lit (15 : Int32) 15 rfl h1_15; have g3 := ne_lit (16 : Int32) 16 rfl h1_16; have g4 := ne_lit (17 : Int32) 17 rfl h1_17; omega)).trans rfl) ?_
  refine y_st rfl rfl rfl rfl rfl (fun _ _ => rfl) ?_
  refine y_st rfl rfl rfl rfl rfl (fun _ _ => rfl) ?_
  show yP (xg xs) d 176 108 [(0, .int n), (1, .int x), (2, .int y)] [.int y, .int x] m _
  refine y_ilt (t := 115) rfl rfl rfl (fun h108 => ?_) (fun h108 => ?_)
  · refine y_st rfl rfl rfl rfl rfl (fun _ _ => rfl) ?_
    refine y_st rfl rfl rfl rfl rfl (fun _ _ => rfl) ?_
    refine y_st rfl rfl rfl rfl rfl (fun _ _ => rfl) ?_
    show yP (xg xs) d 176 118 [(3, .int (0 : Int32)), (0, .int n), (1, .int x), (2, .int y)] [.int (0 : Int32)] m _
    refine y_zeq (t := 125) rfl rfl rfl (fun h118 => ?_) (fun h118 => ?_)
    · refine y_st rfl rfl rfl rfl rfl (fun _ _ => rfl) ?_
      show yP (xg xs) d 176 126 [(3, .int (0 : Int32)), (0, .int n), (1, .int x), (2, .int y)] [.int (0 : Int32)] m _
      exact y_iret rfl rfl rfl (by refine ⟨congrArg (fun z => some (Value.int z)) ?_, rfl⟩; unfold cmp_; grind)
    · exact absurd h118 (by decide)
  · refine y_st rfl rfl rfl rfl rfl (fun _ _ => rfl) ?_
    refine y_st rfl rfl rfl rfl rfl (fun _ _ => rfl) ?_
    refine y_st rfl rfl rfl rfl rfl (fun _ _ => rfl) ?_
    refine y_st rfl rfl rfl rfl rfl (fun _ _ => rfl) ?_
    show yP (xg xs) d 176 118 [(3, .int (1 : Int32)), (0, .int n), (1, .int x), (2, .int y)] [.int (1 : Int32)] m _
    refine y_zeq (t := 125) rfl rfl rfl (fun h118 => ?_) (fun h118 => ?_)
    · exact absurd h118 (by decide)
    · refine y_st rfl rfl rfl rfl rfl (fun _ _ => rfl) ?_
      refine y_st rfl rfl rfl rfl rfl (fun _ _ => rfl) ?_
      show yP (xg xs) d 176 126 [(3, .int (1 : Int32)), (0, .int n), (1, .int x), (2, .int y)] [.int (1 : Int32)] m _
      exact y_iret rfl rfl rfl (by refine ⟨congrArg (fun z => some (Value.int z)) ?_, rfl⟩; unfold cmp_; grind)
set_option maxRecDepth 20000 in
/-- Machine.shifted -/
theorem c177 (xs : List Int32) (d : Nat) (m : yM) (n x y : Int32) : yC (xg xs) (d + 1) 177 [.int n, .int x, .int y] m (fun r m' => r = some (.int (shf_ n x y)) ∧ m' = m) := by
  refine y_st rfl rfl rfl rfl rfl (fun _ _ => rfl) ?_
  refine y_st rfl rfl rfl rfl rfl (fun _ _ => rfl) ?_
  show yP (xg xs) (d + 1) 177 3 [(0, .int n), (1, .int x), (2, .int y)] [.int (23 : Int32), .int n] m _
  refine y_ilt (t := 26) rfl rfl rfl (fun h3 => ?_) (fun h3 => ?_)
  · refine y_st rfl rfl rfl rfl rfl (fun _ _ => rfl) ?_
    show yP (xg xs) (d + 1) 177 27 [(0, .int n), (1, .int x), (2, .int y)] [.int y] m _
    refine y_zlt (t := 47) rfl rfl rfl (fun h27 => ?_) (fun h27 => ?_)
    · refine y_st rfl rfl rfl rfl rfl (fun _ _ => rfl) ?_
      show yP (xg xs) (d + 1) 177 48 [(0, .int n), (1, .int x), (2, .int y)] [.int (0 : Int32)] m _
      exact y_iret rfl rfl rfl (by refine ⟨congrArg (fun z => some (Value.int z)) ?_, rfl⟩; unfold shf_ w16 shl_ shr_; grind)
    · refine y_st rfl rfl rfl rfl rfl (fun _ _ => rfl) ?_
      refine y_st rfl rfl rfl rfl rfl (fun _ _ => rfl) ?_
      refine y_st rfl rfl rfl rfl rfl (fun _ _ => rfl) ?_
      show yP (xg xs) (d + 1) 177 34 [(0, .int n), (1, .int x), (2, .int y)] [.int (21 : Int32), .int n, .int y] m _
      refine y_ige (t := 42) rfl rfl rfl (fun h34 => ?_) (fun h34 => ?_)
      · refine y_st rfl rfl rfl rfl rfl (fun _ _ => rfl) ?_
        show yP (xg xs) (d + 1) 177 44 [(0, .int n), (1, .int x), (2, .int y)] [.int (31 : Int32), .int y] m _
        refine y_ile (t := 49) rfl rfl rfl (fun h44 => ?_) (fun h44 => ?_)
        · refine y_st rfl rfl rfl rfl rfl (fun _ _ => rfl) ?_
          show yP (xg xs) (d + 1) 177 50 [(0, .int n), (1, .int x), (2, .int y)] [.int n] m _
          by_cases h50_19 : n = (19 : Int32)
          · refine y_tsw (t := 76) rfl rfl (by rw [h50_19]; rfl) ?_
            refine y_st rfl rfl rfl rfl rfl (fun _ _ => rfl) ?_
            refine y_st rfl rfl rfl rfl rfl (fun _ _ => rfl) ?_
            refine y_st rfl rfl rfl rfl rfl (fun _ _ => rfl) ?_
            refine y_st rfl rfl rfl rfl rfl (fun _ _ => rfl) ?_
            show yP (xg xs) (d + 1) 177 80 [(0, .int n), (1, .int x), (2, .int y)] [.int ((x <<< (y &&& 31)).toInt16.toInt32)] m _
            exact y_iret rfl rfl rfl (by refine ⟨congrArg (fun z => some (Value.int z)) ?_, rfl⟩; unfold shf_ w16 shl_ shr_; grind)
          by_cases h50_20 : n = (20 : Int32)
          · refine y_tsw (t := 81) rfl rfl (by rw [h50_20]; rfl) ?_
            refine y_st rfl rfl rfl rfl rfl (fun _ _ => rfl) ?_
            refine y_st rfl rfl rfl rfl rfl (fun _ _ => rfl) ?_
            refine y_st rfl rfl rfl rfl rfl (fun _ _ => rfl) ?_
            refine y_st rfl rfl rfl rfl rfl (fun _ _ => rfl) ?_
            refine y_st rfl rfl rfl rfl rfl (fun _ _ => rfl) ?_
            refine y_st rfl rfl rfl rfl rfl (fun _ _ => rfl) ?_
            show yP (xg xs) (d + 1) 177 88 [(0, .int n), (1, .int x), (2, .int y)] [.int ((((x &&& (65535 : Int32)).toUInt32 >>> (y.toUInt32 &&& Int32.toUInt32 31)).toInt32).toInt16.toInt32)] m _
            exact y_iret rfl rfl rfl (by refine ⟨congrArg (fun z => some (Value.int z)) ?_, rfl⟩; unfold shf_ w16 shl_ shr_; grind)
          by_cases h50_21 : n = (21 : Int32)
          · refine y_tsw (t := 89) rfl rfl (by rw [h50_21]; rfl) ?_
            refine y_st rfl rfl rfl rfl rfl (fun _ _ => rfl) ?_
            refine y_st rfl rfl rfl rfl rfl (fun _ _ => rfl) ?_
            refine y_st rfl rfl rfl rfl rfl (fun _ _ => rfl) ?_
            show yP (xg xs) (d + 1) 177 92 [(0, .int n), (1, .int x), (2, .int y)] [.int (x <<< (y &&& 31))] m _
            exact y_iret rfl rfl rfl (by refine ⟨congrArg (fun z => some (Value.int z)) ?_, rfl⟩; unfold shf_ w16 shl_ shr_; grind)
          refine y_tsw (t := 93) rfl rfl ((if_pos (by have g0 := ne_lit (19 : Int32) 19 rfl h50_19; have g1 := ne_lit (20 : Int32) 20 rfl h50_20; have g2 := ne_lit (21 : Int32) 21 rfl h50_21; omega)).trans rfl) ?_
          refine y_st rfl rfl rfl rfl rfl (fun _ _ => rfl) ?_
          refine y_st rfl rfl rfl rfl rfl (fun _ _ => rfl) ?_
          refine y_st rfl rfl rfl rfl rfl (fun _ _ => rfl) ?_
          show yP (xg xs) (d + 1) 177 96 [(0, .int n), (1, .int x), (2, .int y)] [.int ((x.toUInt32 >>> (y.toUInt32 &&& Int32.toUInt32 31)).toInt32)] m _
          exact y_iret rfl rfl rfl (by refine ⟨congrArg (fun z => some (Value.int z)) ?_, rfl⟩; unfold shf_ w16 shl_ shr_; grind)
        · refine y_st rfl rfl rfl rfl rfl (fun _ _ => rfl) ?_
          show yP (xg xs) (d + 1) 177 48 [(0, .int n), (1, .int x), (2, .int y)] [.int (0 : Int32)] m _
          exact y_iret rfl rfl rfl (by refine ⟨congrArg (fun z => some (Value.int z)) ?_, rfl⟩; unfold shf_ w16 shl_ shr_; grind)
      · refine y_st rfl rfl rfl rfl rfl (fun _ _ => rfl) ?_
        refine y_st rfl rfl rfl rfl rfl (fun _ _ => rfl) ?_
        show yP (xg xs) (d + 1) 177 44 [(0, .int n), (1, .int x), (2, .int y)] [.int (15 : Int32), .int y] m _
        refine y_ile (t := 49) rfl rfl rfl (fun h44 => ?_) (fun h44 => ?_)
        · refine y_st rfl rfl rfl rfl rfl (fun _ _ => rfl) ?_
          show yP (xg xs) (d + 1) 177 50 [(0, .int n), (1, .int x), (2, .int y)] [.int n] m _
          by_cases h50_19 : n = (19 : Int32)
          · refine y_tsw (t := 76) rfl rfl (by rw [h50_19]; rfl) ?_
            refine y_st rfl rfl rfl rfl rfl (fun _ _ => rfl) ?_
            refine y_st rfl rfl rfl rfl rfl (fun _ _ => rfl) ?_
            refine y_st rfl rfl rfl rfl rfl (fun _ _ => rfl) ?_
            refine y_st rfl rfl rfl rfl rfl (fun _ _ => rfl) ?_
            show yP (xg xs) (d + 1) 177 80 [(0, .int n), (1, .int x), (2, .int y)] [.int ((x <<< (y &&& 31)).toInt16.toInt32)] m _
            exact y_iret rfl rfl rfl (by refine ⟨congrArg (fun z => some (Value.int z)) ?_, rfl⟩; unfold shf_ w16 shl_ shr_; grind)
          by_cases h50_20 : n = (20 : Int32)
          · refine y_tsw (t := 81) rfl rfl (by rw [h50_20]; rfl) ?_
            refine y_st rfl rfl rfl rfl rfl (fun _ _ => rfl) ?_
            refine y_st rfl rfl rfl rfl rfl (fun _ _ => rfl) ?_
            refine y_st rfl rfl rfl rfl rfl (fun _ _ => rfl) ?_
            refine y_st rfl rfl rfl rfl rfl (fun _ _ => rfl) ?_
            refine y_st rfl rfl rfl rfl rfl (fun _ _ => rfl) ?_
            refine y_st rfl rfl rfl rfl rfl (fun _ _ => rfl) ?_
            show yP (xg xs) (d + 1) 177 88 [(0, .int n), (1, .int x), (2, .int y)] [.int ((((x &&& (65535 : Int32)).toUInt32 >>> (y.toUInt32 &&& Int32.toUInt32 31)).toInt32).toInt16.toInt32)] m _
            exact y_iret rfl rfl rfl (by refine ⟨congrArg (fun z => some (Value.int z)) ?_, rfl⟩; unfold shf_ w16 shl_ shr_; grind)
          by_cases h50_21 : n = (21 : Int32)
          · refine y_tsw (t := 89) rfl rfl (by rw [h50_21]; rfl) ?_
            refine y_st rfl rfl rfl rfl rfl (fun _ _ => rfl) ?_
            refine y_st rfl rfl rfl rfl rfl (fun _ _ => rfl) ?_
            refine y_st rfl rfl rfl rfl rfl (fun _ _ => rfl) ?_
            show yP (xg xs) (d + 1) 177 92 [(0, .int n), (1, .int x), (2, .int y)] [.int (x <<< (y &&& 31))] m _
            exact y_iret rfl rfl rfl (by refine ⟨congrArg (fun z => some (Value.int z)) ?_, rfl⟩; unfold shf_ w16 shl_ shr_; grind)
          refine y_tsw (t := 93) rfl rfl ((if_pos (by have g0 := ne_lit (19 : Int32) 19 rfl h50_19; have g1 := ne_lit (20 : Int32) 20 rfl h50_20; have g2 := ne_lit (21 : Int32) 21 rfl h50_21; omega)).trans rfl) ?_
          refine y_st rfl rfl rfl rfl rfl (fun _ _ => rfl) ?_
          refine y_st rfl rfl rfl rfl rfl (fun _ _ => rfl) ?_
          refine y_st rfl rfl rfl rfl rfl (fun _ _ => rfl) ?_
          show yP (xg xs) (d + 1) 177 96 [(0, .int n), (1, .int x), (2, .int y)] [.int ((x.toUInt32 >>> (y.toUInt32 &&& Int32.toUInt32 31)).toInt32)] m _
          exact y_iret rfl rfl rfl (by refine ⟨congrArg (fun z => some (Value.int z)) ?_, rfl⟩; unfold shf_ w16 shl_ shr_; grind)
        · refine y_st rfl rfl rfl rfl rfl (fun _ _ => rfl) ?_
          show yP (xg xs) (d + 1) 177 48 [(0, .int n), (1, .int x), (2, .int y)] [.int (0 : Int32)] m _
          exact y_iret rfl rfl rfl (by refine ⟨congrArg (fun z => some (Value.int z)) ?_, rfl⟩; unfold shf_ w16 shl_ shr_; grind)
  · refine y_st rfl rfl rfl rfl rfl (fun _ _ => rfl) ?_
    refine y_st rfl rfl rfl rfl rfl (fun _ _ => rfl) ?_
    show yP (xg xs) (d + 1) 177 9 [(0, .int n), (1, .int x), (2, .int y)] [.int (23 : Int32), .int n] m _
    refine y_ine (t := 20) rfl rfl rfl (fun h9 => ?_) (fun h9 => ?_)
    · refine y_st rfl rfl rfl rfl rfl (fun _ _ => rfl) ?_
      refine y_st rfl rfl rfl rfl rfl (fun _ _ => rfl) ?_
      refine y_mi rfl rfl rfl rfl rfl (Nat.le_of_ble_eq_true rfl) (by omega) ?_
      show yP (xg xs) (d + 1) 177 25 [(0, .int n), (1, .int x), (2, .int y)] [.int (if x < y then y else x)] m _
      exact y_iret rfl rfl rfl (by refine ⟨congrArg (fun z => some (Value.int z)) ?_, rfl⟩; unfold shf_ w16 shl_ shr_; grind)
    · refine y_st rfl rfl rfl rfl rfl (fun _ _ => rfl) ?_
      refine y_st rfl rfl rfl rfl rfl (fun _ _ => rfl) ?_
      refine y_mi rfl rfl rfl rfl rfl (Nat.le_of_ble_eq_true rfl) (by omega) ?_
      refine y_st rfl rfl rfl rfl rfl (fun _ _ => rfl) ?_
      show yP (xg xs) (d + 1) 177 25 [(0, .int n), (1, .int x), (2, .int y)] [.int (if y < x then y else x)] m _
      exact y_iret rfl rfl rfl (by refine ⟨congrArg (fun z => some (Value.int z)) ?_, rfl⟩; unfold shf_ w16 shl_ shr_; grind)
set_option maxRecDepth 20000 in
/-- Machine.two -/
theorem c175 (xs : List Int32) (d : Nat) (m : yM) (n x y : Int32) : yC (xg xs) (d + 2) 175 [.int n, .int x, .int y] m (fun r m' => r = some (.int (two_ n x y)) ∧ m' = m) := by
  refine y_st rfl rfl rfl rfl rfl (fun _ _ => rfl) ?_
  show yP (xg xs) (d + 2) 175 1 [(0, .int n), (1, .int x), (2, .int y)] [.int n] m _
  by_cases h1_0 : n = (0 : Int32)
  · refine y_tsw (t := 68) rfl rfl (by rw [h1_0]; rfl) ?_
    refine y_st rfl rfl rfl rfl rfl (fun _ _ => rfl) ?_
    refine y_st rfl rfl rfl rfl rfl (fun _ _ => rfl) ?_
    refine y_st rfl rfl rfl rfl rfl (fun _ _ => rfl) ?_
    refine y_st rfl rfl rfl rfl rfl (fun _ _ => rfl) ?_
    show yP (xg xs) (d + 2) 175 72 [(0, .int n), (1, .int x), (2, .int y)] [.int ((x + y).toInt16.toInt32)] m _
    exact y_iret rfl rfl rfl (by refine ⟨congrArg (fun z => some (Value.int z)) ?_, rfl⟩; unfold two_ w16; grind)
  by_cases h1_1 : n = (1 : Int32)
  · refine y_tsw (t := 73) rfl rfl (by rw [h1_1]; rfl) ?_
    refine y_st rfl rfl rfl rfl rfl (fun _ _ => rfl) ?_
    refine y_st rfl rfl rfl rfl rfl (fun _ _ => rfl) ?_
    refine y_st rfl rfl rfl rfl rfl (fun _ _ => rfl) ?_
    refine y_st rfl rfl rfl rfl rfl (fun _ _ => rfl) ?_
    show yP (xg xs) (d + 2) 175 77 [(0, .int n), (1, .int x), (2, .int y)] [.int ((x - y).toInt16.toInt32)] m _
    exact y_iret rfl rfl rfl (by refine ⟨congrArg (fun z => some (Value.int z)) ?_, rfl⟩; unfold two_ w16; grind)
  by_cases h1_2 : n = (2 : Int32)
  · refine y_tsw (t := 78) rfl rfl (by rw [h1_2]; rfl) ?_
    refine y_st rfl rfl rfl rfl rfl (fun _ _ => rfl) ?_
    refine y_st rfl rfl rfl rfl rfl (fun _ _ => rfl) ?_
    refine y_st rfl rfl rfl rfl rfl (fun _ _ => rfl) ?_
    refine y_st rfl rfl rfl rfl rfl (fun _ _ => rfl) ?_
    show yP (xg xs) (d + 2) 175 82 [(0, .int n), (1, .int x), (2, .int y)] [.int ((x * y).toInt16.toInt32)] m _
    exact y_iret rfl rfl rfl (by refine ⟨congrArg (fun z => some (Value.int z)) ?_, rfl⟩; unfold two_ w16; grind)
  by_cases h1_3 : n = (3 : Int32)
  · refine y_tsw (t := 83) rfl rfl (by rw [h1_3]; rfl) ?_
    refine y_st rfl rfl rfl rfl rfl (fun _ _ => rfl) ?_
    show yP (xg xs) (d + 2) 175 84 [(0, .int n), (1, .int x), (2, .int y)] [.int y] m _
    refine y_zne (t := 91) rfl rfl rfl (fun h84 => ?_) (fun h84 => ?_)
    · refine y_st rfl rfl rfl rfl rfl (fun _ _ => rfl) ?_
      refine y_st rfl rfl rfl rfl rfl (fun _ _ => rfl) ?_
      show yP (xg xs) (d + 2) 175 93 [(0, .int n), (1, .int x), (2, .int y)] [.int y, .int x] m _
      refine y_idiv rfl rfl (h84) ?_
      refine y_st rfl rfl rfl rfl rfl (fun _ _ => rfl) ?_
      show yP (xg xs) (d + 2) 175 95 [(0, .int n), (1, .int x), (2, .int y)] [.int ((x / y).toInt16.toInt32)] m _
      exact y_iret rfl rfl rfl (by refine ⟨congrArg (fun z => some (Value.int z)) ?_, rfl⟩; unfold two_ w16; grind)
    · refine y_st rfl rfl rfl rfl rfl (fun _ _ => rfl) ?_
      refine y_st rfl rfl rfl rfl rfl (fun _ _ => rfl) ?_
      show yP (xg xs) (d + 2) 175 95 [(0, .int n), (1, .int x), (2, .int y)] [.int (0 : Int32)] m _
      exact y_iret rfl rfl rfl (by refine ⟨congrArg (fun z => some (Value.int z)) ?_, rfl⟩; unfold two_ w16; grind)
  by_cases h1_4 : n = (4 : Int32)
  · refine y_tsw (t := 96) rfl rfl (by rw [h1_4]; rfl) ?_
    refine y_st rfl rfl rfl rfl rfl (fun _ _ => rfl) ?_
    show yP (xg xs) (d + 2) 175 97 [(0, .int n), (1, .int x), (2, .int y)] [.int y] m _
    refine y_zne (t := 104) rfl rfl rfl (fun h97 => ?_) (fun h97 => ?_)
    · refine y_st rfl rfl rfl rfl rfl (fun _ _ => rfl) ?_
      refine y_st rfl rfl rfl rfl rfl (fun _ _ => rfl) ?_
      show yP (xg xs) (d + 2) 175 106 [(0, .int n), (1, .int x), (2, .int y)] [.int y, .int x] m _
      refine y_irem rfl rfl (h97) ?_
      refine y_st rfl rfl rfl rfl rfl (fun _ _ => rfl) ?_
      show yP (xg xs) (d + 2) 175 108 [(0, .int n), (1, .int x), (2, .int y)] [.int ((x - x / y * y).toInt16.toInt32)] m _
      exact y_iret rfl rfl rfl (by refine ⟨congrArg (fun z => some (Value.int z)) ?_, rfl⟩; unfold two_ w16; grind)
    · refine y_st rfl rfl rfl rfl rfl (fun _ _ => rfl) ?_
      refine y_st rfl rfl rfl rfl rfl (fun _ _ => rfl) ?_
      show yP (xg xs) (d + 2) 175 108 [(0, .int n), (1, .int x), (2, .int y)] [.int (0 : Int32)] m _
      exact y_iret rfl rfl rfl (by refine ⟨congrArg (fun z => some (Value.int z)) ?_, rfl⟩; unfold two_ w16; grind)
  by_cases h1_5 : n = (5 : Int32)
  · refine y_tsw (t := 109) rfl rfl (by rw [h1_5]; rfl) ?_
    refine y_st rfl rfl rfl rfl rfl (fun _ _ => rfl) ?_
    refine y_st rfl rfl rfl rfl rfl (fun _ _ => rfl) ?_
    refine y_st rfl rfl rfl rfl rfl (fun _ _ => rfl) ?_
    show yP (xg xs) (d + 2) 175 112 [(0, .int n), (1, .int x), (2, .int y)] [.int (x + y)] m _
    exact y_iret rfl rfl rfl (by refine ⟨congrArg (fun z => some (Value.int z)) ?_, rfl⟩; unfold two_ w16; grind)
  by_cases h1_6 : n = (6 : Int32)
  · refine y_tsw (t := 113) rfl rfl (by rw [h1_6]; rfl) ?_
    refine y_st rfl rfl rfl rfl rfl (fun _ _ => rfl) ?_
    refine y_st rfl rfl rfl rfl rfl (fun _ _ => rfl) ?_
    refine y_st rfl rfl rfl rfl rfl (fun _ _ => rfl) ?_
    show yP (xg xs) (d + 2) 175 116 [(0, .int n), (1, .int x), (2, .int y)] [.int (x - y)] m _
    exact y_iret rfl rfl rfl (by refine ⟨congrArg (fun z => some (Value.int z)) ?_, rfl⟩; unfold two_ w16; grind)
  by_cases h1_7 : n = (7 : Int32)
  · refine y_tsw (t := 117) rfl rfl (by rw [h1_7]; rfl) ?_
    refine y_st rfl rfl rfl rfl rfl (fun _ _ => rfl) ?_
    refine y_st rfl rfl rfl rfl rfl (fun _ _ => rfl) ?_
    refine y_st rfl rfl rfl rfl rfl (fun _ _ => rfl) ?_
    show yP (xg xs) (d + 2) 175 120 [(0, .int n), (1, .int x), (2, .int y)] [.int (x * y)] m _
    exact y_iret rfl rfl rfl (by refine ⟨congrArg (fun z => some (Value.int z)) ?_, rfl⟩; unfold two_ w16; grind)
  by_cases h1_8 : n = (8 : Int32)
  · refine y_tsw (t := 121) rfl rfl (by rw [h1_8]; rfl) ?_
    refine y_st rfl rfl rfl rfl rfl (fun _ _ => rfl) ?_
    show yP (xg xs) (d + 2) 175 122 [(0, .int n), (1, .int x), (2, .int y)] [.int y] m _
    refine y_zne (t := 129) rfl rfl rfl (fun h122 => ?_) (fun h122 => ?_)
    · refine y_st rfl rfl rfl rfl rfl (fun _ _ => rfl) ?_
      refine y_st rfl rfl rfl rfl rfl (fun _ _ => rfl) ?_
      show yP (xg xs) (d + 2) 175 131 [(0, .int n), (1, .int x), (2, .int y)] [.int y, .int x] m _
      refine y_idiv rfl rfl (h122) ?_
      show yP (xg xs) (d + 2) 175 132 [(0, .int n), (1, .int x), (2, .int y)] [.int (x / y)] m _
      exact y_iret rfl rfl rfl (by refine ⟨congrArg (fun z => some (Value.int z)) ?_, rfl⟩; unfold two_ w16; grind)
    · refine y_st rfl rfl rfl rfl rfl (fun _ _ => rfl) ?_
      refine y_st rfl rfl rfl rfl rfl (fun _ _ => rfl) ?_
      show yP (xg xs) (d + 2) 175 132 [(0, .int n), (1, .int x), (2, .int y)] [.int (0 : Int32)] m _
      exact y_iret rfl rfl rfl (by refine ⟨congrArg (fun z => some (Value.int z)) ?_, rfl⟩; unfold two_ w16; grind)
  by_cases h1_9 : n = (9 : Int32)
  · refine y_tsw (t := 133) rfl rfl (by rw [h1_9]; rfl) ?_
    refine y_st rfl rfl rfl rfl rfl (fun _ _ => rfl) ?_
    show yP (xg xs) (d + 2) 175 134 [(0, .int n), (1, .int x), (2, .int y)] [.int y] m _
    refine y_zne (t := 141) rfl rfl rfl (fun h134 => ?_) (fun h134 => ?_)
    · refine y_st rfl rfl rfl rfl rfl (fun _ _ => rfl) ?_
      refine y_st rfl rfl rfl rfl rfl (fun _ _ => rfl) ?_
      show yP (xg xs) (d + 2) 175 143 [(0, .int n), (1, .int x), (2, .int y)] [.int y, .int x] m _
      refine y_irem rfl rfl (h134) ?_
      show yP (xg xs) (d + 2) 175 144 [(0, .int n), (1, .int x), (2, .int y)] [.int (x - x / y * y)] m _
      exact y_iret rfl rfl rfl (by refine ⟨congrArg (fun z => some (Value.int z)) ?_, rfl⟩; unfold two_ w16; grind)
    · refine y_st rfl rfl rfl rfl rfl (fun _ _ => rfl) ?_
      refine y_st rfl rfl rfl rfl rfl (fun _ _ => rfl) ?_
      show yP (xg xs) (d + 2) 175 144 [(0, .int n), (1, .int x), (2, .int y)] [.int (0 : Int32)] m _
      exact y_iret rfl rfl rfl (by refine ⟨congrArg (fun z => some (Value.int z)) ?_, rfl⟩; unfold two_ w16; grind)
  by_cases h1_10 : n = (10 : Int32)
  · refine y_tsw (t := 145) rfl rfl (by rw [h1_10]; rfl) ?_
    refine y_st rfl rfl rfl rfl rfl (fun _ _ => rfl) ?_
    refine y_st rfl rfl rfl rfl rfl (fun _ _ => rfl) ?_
    refine y_st rfl rfl rfl rfl rfl (fun _ _ => rfl) ?_
    show yP (xg xs) (d + 2) 175 148 [(0, .int n), (1, .int x), (2, .int y)] [.int (x &&& y)] m _
    exact y_iret rfl rfl rfl (by refine ⟨congrArg (fun z => some (Value.int z)) ?_, rfl⟩; unfold two_ w16; grind)
  by_cases h1_11 : n = (11 : Int32)
  · refine y_tsw (t := 149) rfl rfl (by rw [h1_11]; rfl) ?_
    refine y_st rfl rfl rfl rfl rfl (fun _ _ => rfl) ?_
    refine y_st rfl rfl rfl rfl rfl (fun _ _ => rfl) ?_
    refine y_st rfl rfl rfl rfl rfl (fun _ _ => rfl) ?_
    show yP (xg xs) (d + 2) 175 152 [(0, .int n), (1, .int x), (2, .int y)] [.int (x ||| y)] m _
    exact y_iret rfl rfl rfl (by refine ⟨congrArg (fun z => some (Value.int z)) ?_, rfl⟩; unfold two_ w16; grind)
  by_cases h1_12 : n = (12 : Int32)
  · refine y_tsw (t := 153) rfl rfl (by rw [h1_12]; rfl) ?_
    refine y_st rfl rfl rfl rfl rfl (fun _ _ => rfl) ?_
    refine y_st rfl rfl rfl rfl rfl (fun _ _ => rfl) ?_
    refine y_st rfl rfl rfl rfl rfl (fun _ _ => rfl) ?_
    show yP (xg xs) (d + 2) 175 156 [(0, .int n), (1, .int x), (2, .int y)] [.int (x ^^^ y)] m _
    exact y_iret rfl rfl rfl (by refine ⟨congrArg (fun z => some (Value.int z)) ?_, rfl⟩; unfold two_ w16; grind)
  refine y_tsw (t := 157) rfl rfl ((if_pos (by have g0 := ne_lit (0 : Int32) 0 rfl h1_0; have g1 := ne_lit (1 : Int32) 1 rfl h1_1; have g2 := ne_lit (2 : Int32) 2 rfl h1_2; have g3 := ne_lit (3 : Int32) 3 rfl h1_3; have g4 := ne_lit (4 : Int32) 4 rfl h1_4; have g5 := ne_lit (5 : Int32) 5 rfl h1_5; have g6 := ne_lit (6 : Int32) 6 rfl h1_6; have g7 := ne_lit (7 : Int32) 7 rfl h1_7; have g8 := ne_lit (8 : Int32) 8 rfl h1_8; have g9 := ne_lit (9 : Int32) 9 rfl h1_9; have g10 := ne_lit (10 : Int32) 10 rfl h1_10; have g11 := ne_lit (11 : Int32) 11 rfl h1_11; have g12 := ne_lit (12 : Int32) 12 rfl h1_12; omega)).trans rfl) ?_
  refine y_st rfl rfl rfl rfl rfl (fun _ _ => rfl) ?_
  refine y_st rfl rfl rfl rfl rfl (fun _ _ => rfl) ?_
  show yP (xg xs) (d + 2) 175 160 [(0, .int n), (1, .int x), (2, .int y)] [.int (19 : Int32), .int n] m _
  refine y_ige (t := 172) rfl rfl rfl (fun h160 => ?_) (fun h160 => ?_)
  · refine y_st rfl rfl rfl rfl rfl (fun _ _ => rfl) ?_
    refine y_st rfl rfl rfl rfl rfl (fun _ _ => rfl) ?_
    refine y_st rfl rfl rfl rfl rfl (fun _ _ => rfl) ?_
    show yP (xg xs) (d + 2) 175 175 [(0, .int n), (1, .int x), (2, .int y)] [.int y, .int x, .int n] m _
    refine y_call rfl rfl rfl rfl rfl (Nat.le_of_ble_eq_true rfl) (Nat.le_of_ble_eq_true rfl) rfl (by decide) (c177 xs d m n x y) (fun v1 m1 q1 => ?_)
    obtain ⟨rfl, e1⟩ := q1; rw [e1]; clear e1
    show yP (xg xs) (d + 2) 175 178 [(0, .int n), (1, .int x), (2, .int y)] [.int (shf_ n x y)] m _
    exact y_iret rfl rfl rfl (by refine ⟨congrArg (fun z => some (Value.int z)) ?_, rfl⟩; unfold two_ w16; grind)
  · refine y_st rfl rfl rfl rfl rfl (fun _ _ => rfl) ?_
    refine y_st rfl rfl rfl rfl rfl (fun _ _ => rfl) ?_
    refine y_st rfl rfl rfl rfl rfl (fun _ _ => rfl) ?_
    show yP (xg xs) (d + 2) 175 166 [(0, .int n), (1, .int x), (2, .int y)] [.int y, .int x, .int n] m _
    refine y_call rfl rfl rfl rfl rfl (Nat.le_of_ble_eq_true rfl) (Nat.le_of_ble_eq_true rfl) rfl (by decide) ((c176 xs d m n x y).mono (Nat.le_succ _) (fun _ _ q => q)) (fun v2 m2 q2 => ?_)
    obtain ⟨rfl, e2⟩ := q2; rw [e2]; clear e2
    refine y_st rfl rfl rfl rfl rfl (fun _ _ => rfl) ?_
    show yP (xg xs) (d + 2) 175 178 [(0, .int n), (1, .int x), (2, .int y)] [.int (cmp_ n x y)] m _
    exact y_iret rfl rfl rfl (by refine ⟨congrArg (fun z => some (Value.int z)) ?_, rfl⟩; unfold two_ w16; grind)
