/-! COUNT: laid by wip/gen/small4.py -/
theorem ne_lit {x : Int32} (c : Int32) (n : Int) (hc : c.toInt = n) (h : ¬ x = c) : x.toInt ≠ n := fun e => h (Int32.toInt_inj.mp (by rw [e, hc]))
/-- what count answers, out of the numbers that it reads -/
def cnt (w f p h a b c d e g : Int32) : Int32 := if w = 0 then f else if w = 1 then p else if w < 0 ∨ ¬ w ≤ 7 then -1 else if h = 0 then 0 else if w = 2 then a else if w = 3 then b else if w = 4 then c else if w = 5 then d else if w = 6 then e else g
set_option maxRecDepth 20000 in
/-- CodeMaker.count -/
theorem c235 (xs : List Int32) (d : Nat) (m : yM) (w : Int32) (hb : ¬ m.1 0 12 = 0 → ∃ u : Nat, 1 ≤ u ∧ u ≤ 16 ∧ m.1 35 7 = nI u) : yC (xg xs) d 235 [.ref 0, .int w] m (fun r m' => r = some (.int (cnt w (m.1 0 10) (m.1 0 11) (m.1 0 12) (m.1 35 7) (m.1 35 6) (m.1 18 10) (m.1 52 2) (m.1 52 1) (m.1 41 (m.1 35 7 - 1).toNatClampNeg))) ∧ m' = m) := by
  refine y_st rfl rfl rfl rfl rfl (fun _ _ => rfl) ?_
  show yP (xg xs) d 235 1 [(0, .ref 0), (1, .int w)] [.int w] m _
  refine y_zlt (t := 10) rfl rfl rfl (fun h1 => ?_) (fun h1 => ?_)
  · refine y_st rfl rfl rfl rfl rfl (fun _ _ => rfl) ?_
    show yP (xg xs) d 235 11 [(0, .ref 0), (1, .int w)] [.int ((-1) : Int32)] m _
    exact y_iret rfl rfl rfl (by refine ⟨congrArg (fun z => some (Value.int z)) ?_, rfl⟩; unfold cnt; grind)
  · refine y_st rfl rfl rfl rfl rfl (fun _ _ => rfl) ?_
    refine y_st rfl rfl rfl rfl rfl (fun _ _ => rfl) ?_
    show yP (xg xs) d 235 7 [(0, .ref 0), (1, .int w)] [.int (7 : Int32), .int w] m _
    refine y_ile (t := 12) rfl rfl rfl (fun h7 => ?_) (fun h7 => ?_)
    · refine y_st rfl rfl rfl rfl rfl (fun _ _ => rfl) ?_
      show yP (xg xs) d 235 13 [(0, .ref 0), (1, .int w)] [.int w] m _
      refine y_zne (t := 21) rfl rfl rfl (fun h13 => ?_) (fun h13 => ?_)
      · refine y_st rfl rfl rfl rfl rfl (fun _ _ => rfl) ?_
        refine y_st rfl rfl rfl rfl rfl (fun _ _ => rfl) ?_
        show yP (xg xs) d 235 23 [(0, .ref 0), (1, .int w)] [.int (1 : Int32), .int w] m _
        refine y_ine (t := 31) rfl rfl rfl (fun h23 => ?_) (fun h23 => ?_)
        · refine y_st rfl rfl rfl rfl rfl (fun _ _ => rfl) ?_
          refine y_gf rfl rfl rfl rfl rfl ?_
          show yP (xg xs) d 235 35 [(0, .ref 0), (1, .int w)] [.int (m.1 0 12)] m _
          refine y_zne (t := 40) rfl rfl rfl (fun h35 => ?_) (fun h35 => ?_)
          · refine y_st rfl rfl rfl rfl rfl (fun _ _ => rfl) ?_
            show yP (xg xs) d 235 41 [(0, .ref 0), (1, .int w)] [.int w] m _
            by_cases h41_2 : w = (2 : Int32)
            · refine y_tsw (t := 76) rfl rfl (by rw [h41_2]; rfl) ?_
              refine y_st rfl rfl rfl rfl rfl (fun _ _ => rfl) ?_
              refine y_gf rfl rfl rfl rfl rfl ?_
              refine y_gf rfl rfl rfl rfl rfl ?_
              show yP (xg xs) d 235 83 [(0, .ref 0), (1, .int w)] [.int (m.1 35 7)] m _
              exact y_iret rfl rfl rfl (by refine ⟨congrArg (fun z => some (Value.int z)) ?_, rfl⟩; unfold cnt; grind)
            by_cases h41_3 : w = (3 : Int32)
            · refine y_tsw (t := 84) rfl rfl (by rw [h41_3]; rfl) ?_
              refine y_st rfl rfl rfl rfl rfl (fun _ _ => rfl) ?_
              refine y_gf rfl rfl rfl rfl rfl ?_
              refine y_gf rfl rfl rfl rfl rfl ?_
              show yP (xg xs) d 235 91 [(0, .ref 0), (1, .int w)] [.int (m.1 35 6)] m _
              exact y_iret rfl rfl rfl (by refine ⟨congrArg (fun z => some (Value.int z)) ?_, rfl⟩; unfold cnt; grind)
            by_cases h41_4 : w = (4 : Int32)
            · refine y_tsw (t := 92) rfl rfl (by rw [h41_4]; rfl) ?_
              refine y_st rfl rfl rfl rfl rfl (fun _ _ => rfl) ?_
              refine y_gf rfl rfl rfl rfl rfl ?_
              refine y_gf rfl rfl rfl rfl rfl ?_
              show yP (xg xs) d 235 99 [(0, .ref 0), (1, .int w)] [.int (m.1 18 10)] m _
              exact y_iret rfl rfl rfl (by refine ⟨congrArg (fun z => some (Value.int z)) ?_, rfl⟩; unfold cnt; grind)
            by_cases h41_5 : w = (5 : Int32)
            · refine y_tsw (t := 100) rfl rfl (by rw [h41_5]; rfl) ?_
              refine y_st rfl rfl rfl rfl rfl (fun _ _ => rfl) ?_
              refine y_gf rfl rfl rfl rfl rfl ?_
              refine y_gf rfl rfl rfl rfl rfl ?_
              show yP (xg xs) d 235 107 [(0, .ref 0), (1, .int w)] [.int (m.1 52 2)] m _
              exact y_iret rfl rfl rfl (by refine ⟨congrArg (fun z => some (Value.int z)) ?_, rfl⟩; unfold cnt; grind)
            by_cases h41_6 : w = (6 : Int32)
            · refine y_tsw (t := 108) rfl rfl (by rw [h41_6]; rfl) ?_
              refine y_st rfl rfl rfl rfl rfl (fun _ _ => rfl) ?_
              refine y_gf rfl rfl rfl rfl rfl ?_
              refine y_gf rfl rfl rfl rfl rfl ?_
              show yP (xg xs) d 235 115 [(0, .ref 0), (1, .int w)] [.int (m.1 52 1)] m _
              exact y_iret rfl rfl rfl (by refine ⟨congrArg (fun z => some (Value.int z)) ?_, rfl⟩; unfold cnt; grind)
            refine y_tsw (t := 116) rfl rfl ((if_pos (by have g0 := ne_lit (2 : Int32) 2 rfl h41_2; have g1 := ne_lit (3 : Int32) 3 rfl h41_3; have g2 := ne_lit (4 : Int32) 4 rfl h41_4; have g3 := ne_lit (5 : Int32) 5 rfl h41_5; have g4 := ne_lit (6 : Int32) 6 rfl h41_6; omega)).trans rfl) ?_
            refine y_st rfl rfl rfl rfl rfl (fun _ _ => rfl) ?_
            refine y_gf rfl rfl rfl rfl rfl ?_
            refine y_gf rfl rfl rfl rfl rfl ?_
            refine y_st rfl rfl rfl rfl rfl (fun _ _ => rfl) ?_
            refine y_gf rfl rfl rfl rfl rfl ?_
            refine y_gf rfl rfl rfl rfl rfl ?_
            refine y_st rfl rfl rfl rfl rfl (fun _ _ => rfl) ?_
            refine y_st rfl rfl rfl rfl rfl (fun _ _ => rfl) ?_
            show yP (xg xs) d 235 132 [(0, .ref 0), (1, .int w)] [.int ((m.1 35 7) - (1 : Int32)), .ref 41] m _
            refine y_iald rfl rfl rfl (by obtain ⟨u, u1, u2, u3⟩ := hb h35; rw [u3, show nI u - (1 : Int32) = nI (u - 1) from pk_sub u1]; exact x_in_nI (by omega) (by decide)) ?_
            show yP (xg xs) d 235 133 [(0, .ref 0), (1, .int w)] [.int (m.1 41 (((m.1 35 7) - (1 : Int32)).toNatClampNeg))] m _
            exact y_iret rfl rfl rfl (by refine ⟨congrArg (fun z => some (Value.int z)) ?_, rfl⟩; unfold cnt; grind)
          · refine y_st rfl rfl rfl rfl rfl (fun _ _ => rfl) ?_
            show yP (xg xs) d 235 39 [(0, .ref 0), (1, .int w)] [.int (0 : Int32)] m _
            exact y_iret rfl rfl rfl (by refine ⟨congrArg (fun z => some (Value.int z)) ?_, rfl⟩; unfold cnt; grind)
        · refine y_st rfl rfl rfl rfl rfl (fun _ _ => rfl) ?_
          refine y_gf rfl rfl rfl rfl rfl ?_
          show yP (xg xs) d 235 30 [(0, .ref 0), (1, .int w)] [.int (m.1 0 11)] m _
          exact y_iret rfl rfl rfl (by refine ⟨congrArg (fun z => some (Value.int z)) ?_, rfl⟩; unfold cnt; grind)
      · refine y_st rfl rfl rfl rfl rfl (fun _ _ => rfl) ?_
        refine y_gf rfl rfl rfl rfl rfl ?_
        show yP (xg xs) d 235 20 [(0, .ref 0), (1, .int w)] [.int (m.1 0 10)] m _
        exact y_iret rfl rfl rfl (by refine ⟨congrArg (fun z => some (Value.int z)) ?_, rfl⟩; unfold cnt; grind)
    · refine y_st rfl rfl rfl rfl rfl (fun _ _ => rfl) ?_
      show yP (xg xs) d 235 11 [(0, .ref 0), (1, .int w)] [.int ((-1) : Int32)] m _
      exact y_iret rfl rfl rfl (by refine ⟨congrArg (fun z => some (Value.int z)) ?_, rfl⟩; unfold cnt; grind)
set_option maxRecDepth 20000 in
/-- reference: count -/
theorem c403 (xs : List Int32) (d : Nat) (m : yM) (w : Int32) (hb : ¬ m.1 58 61 = 0 → ∃ u : Nat, 1 ≤ u ∧ u ≤ 16 ∧ m.1 58 23 = nI u) : yC (xg xs) d 403 [.ref 58, .int w] m (fun r m' => r = some (.int (cnt w (m.1 58 3) (m.1 58 4) (m.1 58 61) (m.1 58 23) (m.1 58 45) (m.1 58 62) (m.1 58 65) (m.1 58 64) (m.2 94 (m.1 58 23 - 1).toNatClampNeg).toInt32)) ∧ m' = y_si m 58 0 0) := by
  refine y_st rfl rfl rfl rfl rfl (fun _ _ => rfl) ?_
  refine y_st rfl rfl rfl rfl rfl (fun _ _ => rfl) ?_
  refine y_pfi rfl rfl rfl rfl rfl (x_fit_i _) ?_
  show yP (xg xs) d 403 5 [(0, .ref 58), (1, .int w)] [] (y_si m 58 0 (0 : Int32)) _
  refine y_st rfl rfl rfl rfl rfl (fun _ _ => rfl) ?_
  show yP (xg xs) d 403 6 [(0, .ref 58), (1, .int w)] [.int w] (y_si m 58 0 (0 : Int32)) _
  by_cases h6_0 : w = (0 : Int32)
  · refine y_tsw (t := 52) rfl rfl (by rw [h6_0]; rfl) ?_
    refine y_st rfl rfl rfl rfl rfl (fun _ _ => rfl) ?_
    refine y_gf rfl rfl rfl rfl rfl ?_
    show yP (xg xs) d 403 56 [(0, .ref 58), (1, .int w)] [.int (m.1 58 3)] (y_si m 58 0 (0 : Int32)) _
    exact y_iret rfl rfl rfl (by refine ⟨congrArg (fun z => some (Value.int z)) ?_, rfl⟩; unfold cnt; grind)
  by_cases h6_1 : w = (1 : Int32)
  · refine y_tsw (t := 57) rfl rfl (by rw [h6_1]; rfl) ?_
    refine y_st rfl rfl rfl rfl rfl (fun _ _ => rfl) ?_
    refine y_gf rfl rfl rfl rfl rfl ?_
    show yP (xg xs) d 403 61 [(0, .ref 58), (1, .int w)] [.int (m.1 58 4)] (y_si m 58 0 (0 : Int32)) _
    exact y_iret rfl rfl rfl (by refine ⟨congrArg (fun z => some (Value.int z)) ?_, rfl⟩; unfold cnt; grind)
  by_cases h6_2 : w = (2 : Int32)
  · refine y_tsw (t := 62) rfl rfl (by rw [h6_2]; rfl) ?_
    refine y_st rfl rfl rfl rfl rfl (fun _ _ => rfl) ?_
    refine y_gf rfl rfl rfl rfl rfl ?_
    show yP (xg xs) d 403 66 [(0, .ref 58), (1, .int w)] [.int (m.1 58 61)] (y_si m 58 0 (0 : Int32)) _
    refine y_zeq (t := 76) rfl rfl rfl (fun h66 => ?_) (fun h66 => ?_)
    · refine y_st rfl rfl rfl rfl rfl (fun _ _ => rfl) ?_
      show yP (xg xs) d 403 77 [(0, .ref 58), (1, .int w)] [.int (0 : Int32)] (y_si m 58 0 (0 : Int32)) _
      exact y_iret rfl rfl rfl (by refine ⟨congrArg (fun z => some (Value.int z)) ?_, rfl⟩; unfold cnt; grind)
    · refine y_st rfl rfl rfl rfl rfl (fun _ _ => rfl) ?_
      refine y_gf rfl rfl rfl rfl rfl ?_
      refine y_st rfl rfl rfl rfl rfl (fun _ _ => rfl) ?_
      show yP (xg xs) d 403 77 [(0, .ref 58), (1, .int w)] [.int (m.1 58 23)] (y_si m 58 0 (0 : Int32)) _
      exact y_iret rfl rfl rfl (by refine ⟨congrArg (fun z => some (Value.int z)) ?_, rfl⟩; unfold cnt; grind)
  by_cases h6_3 : w = (3 : Int32)
  · refine y_tsw (t := 78) rfl rfl (by rw [h6_3]; rfl) ?_
    refine y_st rfl rfl rfl rfl rfl (fun _ _ => rfl) ?_
    refine y_gf rfl rfl rfl rfl rfl ?_
    show yP (xg xs) d 403 82 [(0, .ref 58), (1, .int w)] [.int (m.1 58 61)] (y_si m 58 0 (0 : Int32)) _
    refine y_zeq (t := 92) rfl rfl rfl (fun h82 => ?_) (fun h82 => ?_)
    · refine y_st rfl rfl rfl rfl rfl (fun _ _ => rfl) ?_
      show yP (xg xs) d 403 93 [(0, .ref 58), (1, .int w)] [.int (0 : Int32)] (y_si m 58 0 (0 : Int32)) _
      exact y_iret rfl rfl rfl (by refine ⟨congrArg (fun z => some (Value.int z)) ?_, rfl⟩; unfold cnt; grind)
    · refine y_st rfl rfl rfl rfl rfl (fun _ _ => rfl) ?_
      refine y_gf rfl rfl rfl rfl rfl ?_
      refine y_st rfl rfl rfl rfl rfl (fun _ _ => rfl) ?_
      show yP (xg xs) d 403 93 [(0, .ref 58), (1, .int w)] [.int (m.1 58 45)] (y_si m 58 0 (0 : Int32)) _
      exact y_iret rfl rfl rfl (by refine ⟨congrArg (fun z => some (Value.int z)) ?_, rfl⟩; unfold cnt; grind)
  by_cases h6_4 : w = (4 : Int32)
  · refine y_tsw (t := 94) rfl rfl (by rw [h6_4]; rfl) ?_
    refine y_st rfl rfl rfl rfl rfl (fun _ _ => rfl) ?_
    refine y_gf rfl rfl rfl rfl rfl ?_
    show yP (xg xs) d 403 98 [(0, .ref 58), (1, .int w)] [.int (m.1 58 61)] (y_si m 58 0 (0 : Int32)) _
    refine y_zeq (t := 108) rfl rfl rfl (fun h98 => ?_) (fun h98 => ?_)
    · refine y_st rfl rfl rfl rfl rfl (fun _ _ => rfl) ?_
      show yP (xg xs) d 403 109 [(0, .ref 58), (1, .int w)] [.int (0 : Int32)] (y_si m 58 0 (0 : Int32)) _
      exact y_iret rfl rfl rfl (by refine ⟨congrArg (fun z => some (Value.int z)) ?_, rfl⟩; unfold cnt; grind)
    · refine y_st rfl rfl rfl rfl rfl (fun _ _ => rfl) ?_
      refine y_gf rfl rfl rfl rfl rfl ?_
      refine y_st rfl rfl rfl rfl rfl (fun _ _ => rfl) ?_
      show yP (xg xs) d 403 109 [(0, .ref 58), (1, .int w)] [.int (m.1 58 62)] (y_si m 58 0 (0 : Int32)) _
      exact y_iret rfl rfl rfl (by refine ⟨congrArg (fun z => some (Value.int z)) ?_, rfl⟩; unfold cnt; grind)
  by_cases h6_5 : w = (5 : Int32)
  · refine y_tsw (t := 110) rfl rfl (by rw [h6_5]; rfl) ?_
    refine y_st rfl rfl rfl rfl rfl (fun _ _ => rfl) ?_
    refine y_gf rfl rfl rfl rfl rfl ?_
    show yP (xg xs) d 403 114 [(0, .ref 58), (1, .int w)] [.int (m.1 58 61)] (y_si m 58 0 (0 : Int32)) _
    refine y_zeq (t := 124) rfl rfl rfl (fun h114 => ?_) (fun h114 => ?_)
    · refine y_st rfl rfl rfl rfl rfl (fun _ _ => rfl) ?_
      show yP (xg xs) d 403 125 [(0, .ref 58), (1, .int w)] [.int (0 : Int32)] (y_si m 58 0 (0 : Int32)) _
      exact y_iret rfl rfl rfl (by refine ⟨congrArg (fun z => some (Value.int z)) ?_, rfl⟩; unfold cnt; grind)
    · refine y_st rfl rfl rfl rfl rfl (fun _ _ => rfl) ?_
      refine y_gf rfl rfl rfl rfl rfl ?_
      refine y_st rfl rfl rfl rfl rfl (fun _ _ => rfl) ?_
      show yP (xg xs) d 403 125 [(0, .ref 58), (1, .int w)] [.int (m.1 58 65)] (y_si m 58 0 (0 : Int32)) _
      exact y_iret rfl rfl rfl (by refine ⟨congrArg (fun z => some (Value.int z)) ?_, rfl⟩; unfold cnt; grind)
  by_cases h6_6 : w = (6 : Int32)
  · refine y_tsw (t := 126) rfl rfl (by rw [h6_6]; rfl) ?_
    refine y_st rfl rfl rfl rfl rfl (fun _ _ => rfl) ?_
    refine y_gf rfl rfl rfl rfl rfl ?_
    show yP (xg xs) d 403 130 [(0, .ref 58), (1, .int w)] [.int (m.1 58 61)] (y_si m 58 0 (0 : Int32)) _
    refine y_zeq (t := 140) rfl rfl rfl (fun h130 => ?_) (fun h130 => ?_)
    · refine y_st rfl rfl rfl rfl rfl (fun _ _ => rfl) ?_
      show yP (xg xs) d 403 141 [(0, .ref 58), (1, .int w)] [.int (0 : Int32)] (y_si m 58 0 (0 : Int32)) _
      exact y_iret rfl rfl rfl (by refine ⟨congrArg (fun z => some (Value.int z)) ?_, rfl⟩; unfold cnt; grind)
    · refine y_st rfl rfl rfl rfl rfl (fun _ _ => rfl) ?_
      refine y_gf rfl rfl rfl rfl rfl ?_
      refine y_st rfl rfl rfl rfl rfl (fun _ _ => rfl) ?_
      show yP (xg xs) d 403 141 [(0, .ref 58), (1, .int w)] [.int (m.1 58 64)] (y_si m 58 0 (0 : Int32)) _
      exact y_iret rfl rfl rfl (by refine ⟨congrArg (fun z => some (Value.int z)) ?_, rfl⟩; unfold cnt; grind)
  by_cases h6_7 : w = (7 : Int32)
  · refine y_tsw (t := 142) rfl rfl (by rw [h6_7]; rfl) ?_
    refine y_st rfl rfl rfl rfl rfl (fun _ _ => rfl) ?_
    refine y_gf rfl rfl rfl rfl rfl ?_
    show yP (xg xs) d 403 146 [(0, .ref 58), (1, .int w)] [.int (m.1 58 61)] (y_si m 58 0 (0 : Int32)) _
    refine y_zeq (t := 164) rfl rfl rfl (fun h146 => ?_) (fun h146 => ?_)
    · refine y_st rfl rfl rfl rfl rfl (fun _ _ => rfl) ?_
      show yP (xg xs) d 403 165 [(0, .ref 58), (1, .int w)] [.int (0 : Int32)] (y_si m 58 0 (0 : Int32)) _
      exact y_iret rfl rfl rfl (by refine ⟨congrArg (fun z => some (Value.int z)) ?_, rfl⟩; unfold cnt; grind)
    · refine y_st rfl rfl rfl rfl rfl (fun _ _ => rfl) ?_
      refine y_gf rfl rfl rfl rfl rfl ?_
      refine y_st rfl rfl rfl rfl rfl (fun _ _ => rfl) ?_
      refine y_gf rfl rfl rfl rfl rfl ?_
      refine y_st rfl rfl rfl rfl rfl (fun _ _ => rfl) ?_
      refine y_st rfl rfl rfl rfl rfl (fun _ _ => rfl) ?_
      show yP (xg xs) d 403 159 [(0, .ref 58), (1, .int w)] [.int ((m.1 58 23) - (1 : Int32)), .ref 94] (y_si m 58 0 (0 : Int32)) _
      refine y_lald rfl rfl rfl (by obtain ⟨u, u1, u2, u3⟩ := hb h146; rw [u3, show nI u - (1 : Int32) = nI (u - 1) from pk_sub u1]; exact x_in_nI (by omega) (by decide)) ?_
      refine y_st rfl rfl rfl rfl rfl (fun _ _ => rfl) ?_
      refine y_st rfl rfl rfl rfl rfl (fun _ _ => rfl) ?_
      show yP (xg xs) d 403 165 [(0, .ref 58), (1, .int w)] [.int ((m.2 94 (((m.1 58 23) - (1 : Int32)).toNatClampNeg)).toInt32)] (y_si m 58 0 (0 : Int32)) _
      exact y_iret rfl rfl rfl (by refine ⟨congrArg (fun z => some (Value.int z)) ?_, rfl⟩; unfold cnt; grind)
  refine y_tsw (t := 166) rfl rfl ((if_pos (by have g0 := ne_lit (0 : Int32) 0 rfl h6_0; have g1 := ne_lit (1 : Int32) 1 rfl h6_1; have g2 := ne_lit (2 : Int32) 2 rfl h6_2; have g3 := ne_lit (3 : Int32) 3 rfl h6_3; have g4 := ne_lit (4 : Int32) 4 rfl h6_4; have g5 := ne_lit (5 : Int32) 5 rfl h6_5; have g6 := ne_lit (6 : Int32) 6 rfl h6_6; have g7 := ne_lit (7 : Int32) 7 rfl h6_7; omega)).trans rfl) ?_
  refine y_st rfl rfl rfl rfl rfl (fun _ _ => rfl) ?_
  show yP (xg xs) d 403 167 [(0, .ref 58), (1, .int w)] [.int ((-1) : Int32)] (y_si m 58 0 (0 : Int32)) _
  exact y_iret rfl rfl rfl (by refine ⟨congrArg (fun z => some (Value.int z)) ?_, rfl⟩; unfold cnt; grind)
theorem cnt_0 (w f p a b c d e g a' b' c' d' e' g' : Int32) : cnt w f p 0 a b c d e g = cnt w f p 0 a' b' c' d' e' g' := by
  unfold cnt
  simp
theorem op_count (xs : List Int32) (D : Nat) {Ro : yM → Prop} (hR : ∀ m, Ro m → Rh m) (hS : ClT Ro) (w : Int32) : opOk xs D (InT Ro) (InT Ro) 235 403 [.int w] := by
  rintro m ⟨⟨k, h1, h2, h3, h4⟩, ho⟩
  have hr := hR m ho
  have hb : ¬ m.1 0 12 = 0 → ∃ u : Nat, 1 ≤ u ∧ u ≤ 16 ∧ m.1 35 7 = nI u := fun z => by
    obtain ⟨u, z, cc, st, q1, q2, q3, q4, -⟩ := hr.2.2.2.2 z
    exact ⟨u, q1, q2, q3⟩
  have hb2 : ¬ m.1 58 61 = 0 → ∃ u : Nat, 1 ≤ u ∧ u ≤ 16 ∧ m.1 58 23 = nI u := fun z => by
    rw [← hr.2.2.1] at z
    obtain ⟨u, z, cc, st, q1, q2, q3, q4, -⟩ := hr.2.2.2.2 z
    exact ⟨u, q1, q2, q4⟩
  refine yC.mono (Nat.le_refl _) ?_ (c235 xs D m w hb)
  rintro r m1 ⟨rfl, e1⟩
  refine ⟨_, rfl, ?_⟩
  rw [e1]
  refine yC.mono (Nat.le_refl _) ?_ (c403 xs D m w hb2)
  rintro r2 m2 ⟨rfl, rfl⟩
  refine ⟨congrArg (fun z => some (Value.int z)) ?_, ⟨k, h1, h2, h3, h4⟩, hS m _ (Sm.si (by decide)) ho⟩
  rw [← hr.1, ← hr.2.1, ← hr.2.2.1]
  by_cases ha : m.1 0 12 = 0
  · rw [ha]
    exact cnt_0 ..
  · obtain ⟨u, z, cc, st, q1, q2, q3, q4, -, q6, q7, -, q9, q10, q11, q12, q13, -⟩ := hr.2.2.2.2 ha
    have e2 : (nI u - (1 : Int32)).toNatClampNeg = u - 1 := by
      rw [show nI u - (1 : Int32) = nI (u - 1) from pk_sub q1]
      exact nI_clamp (by omega)
    rw [q3, q4, q6, q7, q9, q10, ← q11, ← q12, e2, q13]
