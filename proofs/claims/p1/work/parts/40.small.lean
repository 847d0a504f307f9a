/-! SMALL METHODS: laid by wip/gen/small.py -/
set_option maxRecDepth 20000 in
/-- CodeMaker.clear -/
theorem c14 (xs : List Int32) (d : Nat) (m : yM)  : yC (xg xs) d 14 [.ref 0] m (fun r m' => r = some (.int (m.1 0 9)) ∧ m' = y_si m 0 9 0) := by
  refine y_st rfl rfl rfl rfl rfl (fun _ _ => rfl) ?_
  refine y_gf rfl rfl rfl rfl rfl ?_
  refine y_st rfl rfl rfl rfl rfl (fun _ _ => rfl) ?_
  refine y_st rfl rfl rfl rfl rfl (fun _ _ => rfl) ?_
  refine y_st rfl rfl rfl rfl rfl (fun _ _ => rfl) ?_
  refine y_pfi rfl rfl rfl rfl rfl (x_fit_i _) ?_
  show yP (xg xs) d 14 10 [(1, .int (m.1 0 9)), (0, .ref 0)] [] (y_si m 0 9 (0 : Int32)) _
  refine y_st rfl rfl rfl rfl rfl (fun _ _ => rfl) ?_
  show yP (xg xs) d 14 11 [(1, .int (m.1 0 9)), (0, .ref 0)] [.int (m.1 0 9)] (y_si m 0 9 (0 : Int32)) _
  exact y_iret rfl rfl rfl (⟨rfl, rfl⟩)
set_option maxRecDepth 20000 in
/-- reference: clear -/
theorem c265 (xs : List Int32) (d : Nat) (m : yM)  : yC (xg xs) d 265 [.ref 58] m (fun r m' => r = some (.int (m.1 58 2)) ∧ m' = y_si (y_si m 58 0 0) 58 2 0) := by
  refine y_st rfl rfl rfl rfl rfl (fun _ _ => rfl) ?_
  refine y_st rfl rfl rfl rfl rfl (fun _ _ => rfl) ?_
  refine y_pfi rfl rfl rfl rfl rfl (x_fit_i _) ?_
  show yP (xg xs) d 265 5 [(0, .ref 58)] [] (y_si m 58 0 (0 : Int32)) _
  refine y_st rfl rfl rfl rfl rfl (fun _ _ => rfl) ?_
  refine y_gf rfl rfl rfl rfl rfl ?_
  refine y_st rfl rfl rfl rfl rfl (fun _ _ => rfl) ?_
  refine y_st rfl rfl rfl rfl rfl (fun _ _ => rfl) ?_
  refine y_st rfl rfl rfl rfl rfl (fun _ _ => rfl) ?_
  refine y_pfi rfl rfl rfl rfl rfl (x_fit_i _) ?_
  show yP (xg xs) d 265 15 [(1, .int (m.1 58 2)), (0, .ref 58)] [] (y_si (y_si m 58 0 (0 : Int32)) 58 2 (0 : Int32)) _
  refine y_st rfl rfl rfl rfl rfl (fun _ _ => rfl) ?_
  show yP (xg xs) d 265 16 [(1, .int (m.1 58 2)), (0, .ref 58)] [.int (m.1 58 2)] (y_si (y_si m 58 0 (0 : Int32)) 58 2 (0 : Int32)) _
  exact y_iret rfl rfl rfl (⟨rfl, rfl⟩)
set_option maxRecDepth 20000 in
/-- CodeMaker.end -/
theorem c17 (xs : List Int32) (d : Nat) (m : yM) (n : Int32) : yC (xg xs) d 17 [.ref 0, .int n] m (fun r m' => if (n < 0 ∨ 20 < n ∨ ¬ (20 : Int32) ≤ m.1 0 9) then r = some (.int (-1)) ∧ m' = m else r = some (.int (m.1 0 9 - 20 + n)) ∧ m' = y_si m 0 9 (m.1 0 9 - 20 + n)) := by
  refine y_st rfl rfl rfl rfl rfl (fun _ _ => rfl) ?_
  show yP (xg xs) d 17 1 [(0, .ref 0), (1, .int n)] [.int n] m _
  refine y_zlt (t := 19) rfl rfl rfl (fun h1 => ?_) (fun h1 => ?_)
  · refine y_st rfl rfl rfl rfl rfl (fun _ _ => rfl) ?_
    show yP (xg xs) d 17 20 [(0, .ref 0), (1, .int n)] [.int ((-1) : Int32)] m _
    exact y_iret rfl rfl rfl (by split <;> first | exact ⟨rfl, rfl⟩ | grind)
  · refine y_st rfl rfl rfl rfl rfl (fun _ _ => rfl) ?_
    refine y_st rfl rfl rfl rfl rfl (fun _ _ => rfl) ?_
    show yP (xg xs) d 17 7 [(0, .ref 0), (1, .int n)] [.int (20 : Int32), .int n] m _
    refine y_igt (t := 19) rfl rfl rfl (fun h7 => ?_) (fun h7 => ?_)
    · refine y_st rfl rfl rfl rfl rfl (fun _ _ => rfl) ?_
      show yP (xg xs) d 17 20 [(0, .ref 0), (1, .int n)] [.int ((-1) : Int32)] m _
      exact y_iret rfl rfl rfl (by split <;> first | exact ⟨rfl, rfl⟩ | grind)
    · refine y_st rfl rfl rfl rfl rfl (fun _ _ => rfl) ?_
      refine y_gf rfl rfl rfl rfl rfl ?_
      refine y_st rfl rfl rfl rfl rfl (fun _ _ => rfl) ?_
      show yP (xg xs) d 17 16 [(0, .ref 0), (1, .int n)] [.int (20 : Int32), .int (m.1 0 9)] m _
      refine y_ige (t := 21) rfl rfl rfl (fun h16 => ?_) (fun h16 => ?_)
      · refine y_st rfl rfl rfl rfl rfl (fun _ _ => rfl) ?_
        refine y_st rfl rfl rfl rfl rfl (fun _ _ => rfl) ?_
        refine y_gf rfl rfl rfl rfl rfl ?_
        refine y_st rfl rfl rfl rfl rfl (fun _ _ => rfl) ?_
        refine y_st rfl rfl rfl rfl rfl (fun _ _ => rfl) ?_
        refine y_st rfl rfl rfl rfl rfl (fun _ _ => rfl) ?_
        refine y_st rfl rfl rfl rfl rfl (fun _ _ => rfl) ?_
        refine y_pfi rfl rfl rfl rfl rfl (x_fit_i _) ?_
        show yP (xg xs) d 17 34 [(0, .ref 0), (1, .int n)] [] (y_si m 0 9 (((m.1 0 9) - (20 : Int32)) + n)) _
        refine y_st rfl rfl rfl rfl rfl (fun _ _ => rfl) ?_
        refine y_gf rfl rfl rfl rfl rfl ?_
        show yP (xg xs) d 17 38 [(0, .ref 0), (1, .int n)] [.int (((m.1 0 9) - (20 : Int32)) + n)] (y_si m 0 9 (((m.1 0 9) - (20 : Int32)) + n)) _
        exact y_iret rfl rfl rfl (by split <;> first | exact ⟨rfl, rfl⟩ | grind)
      · refine y_st rfl rfl rfl rfl rfl (fun _ _ => rfl) ?_
        show yP (xg xs) d 17 20 [(0, .ref 0), (1, .int n)] [.int ((-1) : Int32)] m _
        exact y_iret rfl rfl rfl (by split <;> first | exact ⟨rfl, rfl⟩ | grind)
set_option maxRecDepth 20000 in
/-- reference: end -/
theorem c268 (xs : List Int32) (d : Nat) (m : yM) (n : Int32) : yC (xg xs) d 268 [.ref 58, .int n] m (fun r m' => if (n < 0 ∨ 20 < n ∨ ¬ (20 : Int32) ≤ m.1 58 2) then r = some (.int (-1)) ∧ m' = y_si m 58 0 0 else r = some (.int (m.1 58 2 - 20 + n)) ∧ m' = y_si (y_si m 58 0 0) 58 2 (m.1 58 2 - 20 + n)) := by
  refine y_st rfl rfl rfl rfl rfl (fun _ _ => rfl) ?_
  refine y_st rfl rfl rfl rfl rfl (fun _ _ => rfl) ?_
  refine y_pfi rfl rfl rfl rfl rfl (x_fit_i _) ?_
  show yP (xg xs) d 268 5 [(0, .ref 58), (1, .int n)] [] (y_si m 58 0 (0 : Int32)) _
  refine y_st rfl rfl rfl rfl rfl (fun _ _ => rfl) ?_
  show yP (xg xs) d 268 6 [(0, .ref 58), (1, .int n)] [.int n] (y_si m 58 0 (0 : Int32)) _
  refine y_zlt (t := 24) rfl rfl rfl (fun h6 => ?_) (fun h6 => ?_)
  · refine y_st rfl rfl rfl rfl rfl (fun _ _ => rfl) ?_
    show yP (xg xs) d 268 25 [(0, .ref 58), (1, .int n)] [.int ((-1) : Int32)] (y_si m 58 0 (0 : Int32)) _
    exact y_iret rfl rfl rfl (by split <;> first | exact ⟨rfl, rfl⟩ | grind)
  · refine y_st rfl rfl rfl rfl rfl (fun _ _ => rfl) ?_
    refine y_st rfl rfl rfl rfl rfl (fun _ _ => rfl) ?_
    show yP (xg xs) d 268 12 [(0, .ref 58), (1, .int n)] [.int (20 : Int32), .int n] (y_si m 58 0 (0 : Int32)) _
    refine y_igt (t := 24) rfl rfl rfl (fun h12 => ?_) (fun h12 => ?_)
    · refine y_st rfl rfl rfl rfl rfl (fun _ _ => rfl) ?_
      show yP (xg xs) d 268 25 [(0, .ref 58), (1, .int n)] [.int ((-1) : Int32)] (y_si m 58 0 (0 : Int32)) _
      exact y_iret rfl rfl rfl (by split <;> first | exact ⟨rfl, rfl⟩ | grind)
    · refine y_st rfl rfl rfl rfl rfl (fun _ _ => rfl) ?_
      refine y_gf rfl rfl rfl rfl rfl ?_
      refine y_st rfl rfl rfl rfl rfl (fun _ _ => rfl) ?_
      show yP (xg xs) d 268 21 [(0, .ref 58), (1, .int n)] [.int (20 : Int32), .int (m.1 58 2)] (y_si m 58 0 (0 : Int32)) _
      refine y_ige (t := 26) rfl rfl rfl (fun h21 => ?_) (fun h21 => ?_)
      · refine y_st rfl rfl rfl rfl rfl (fun _ _ => rfl) ?_
        refine y_st rfl rfl rfl rfl rfl (fun _ _ => rfl) ?_
        refine y_gf rfl rfl rfl rfl rfl ?_
        refine y_st rfl rfl rfl rfl rfl (fun _ _ => rfl) ?_
        refine y_st rfl rfl rfl rfl rfl (fun _ _ => rfl) ?_
        refine y_st rfl rfl rfl rfl rfl (fun _ _ => rfl) ?_
        refine y_st rfl rfl rfl rfl rfl (fun _ _ => rfl) ?_
        refine y_pfi rfl rfl rfl rfl rfl (x_fit_i _) ?_
        show yP (xg xs) d 268 39 [(0, .ref 58), (1, .int n)] [] (y_si (y_si m 58 0 (0 : Int32)) 58 2 (((m.1 58 2) - (20 : Int32)) + n)) _
        refine y_st rfl rfl rfl rfl rfl (fun _ _ => rfl) ?_
        refine y_gf rfl rfl rfl rfl rfl ?_
        show yP (xg xs) d 268 43 [(0, .ref 58), (1, .int n)] [.int (((m.1 58 2) - (20 : Int32)) + n)] (y_si (y_si m 58 0 (0 : Int32)) 58 2 (((m.1 58 2) - (20 : Int32)) + n)) _
        exact y_iret rfl rfl rfl (by split <;> first | exact ⟨rfl, rfl⟩ | grind)
      · refine y_st rfl rfl rfl rfl rfl (fun _ _ => rfl) ?_
        show yP (xg xs) d 268 25 [(0, .ref 58), (1, .int n)] [.int ((-1) : Int32)] (y_si m 58 0 (0 : Int32)) _
        exact y_iret rfl rfl rfl (by split <;> first | exact ⟨rfl, rfl⟩ | grind)
set_option maxRecDepth 20000 in
/-- CodeMaker.hasCell -/
theorem c240 (xs : List Int32) (d : Nat) (m : yM) (c : Int32) : yC (xg xs) d 240 [.ref 0, .int c] m (fun r m' => r = some (.int (if (¬ m.1 0 12 = 0 ∧ 0 ≤ c ∧ c < m.1 18 10) then 1 else 0)) ∧ m' = m) := by
  refine y_st rfl rfl rfl rfl rfl (fun _ _ => rfl) ?_
  refine y_gf rfl rfl rfl rfl rfl ?_
  show yP (xg xs) d 240 4 [(0, .ref 0), (1, .int c)] [.int (m.1 0 12)] m _
  refine y_zeq (t := 26) rfl rfl rfl (fun h4 => ?_) (fun h4 => ?_)
  · refine y_st rfl rfl rfl rfl rfl (fun _ _ => rfl) ?_
    show yP (xg xs) d 240 27 [(0, .ref 0), (1, .int c)] [.int (0 : Int32)] m _
    exact y_zret rfl rfl rfl (by decide) (by refine ⟨congrArg (fun z => some (Value.int z)) ?_, rfl⟩; grind)
  · refine y_st rfl rfl rfl rfl rfl (fun _ _ => rfl) ?_
    show yP (xg xs) d 240 8 [(0, .ref 0), (1, .int c)] [.int c] m _
    refine y_zlt (t := 26) rfl rfl rfl (fun h8 => ?_) (fun h8 => ?_)
    · refine y_st rfl rfl rfl rfl rfl (fun _ _ => rfl) ?_
      show yP (xg xs) d 240 27 [(0, .ref 0), (1, .int c)] [.int (0 : Int32)] m _
      exact y_zret rfl rfl rfl (by decide) (by refine ⟨congrArg (fun z => some (Value.int z)) ?_, rfl⟩; grind)
    · refine y_st rfl rfl rfl rfl rfl (fun _ _ => rfl) ?_
      refine y_st rfl rfl rfl rfl rfl (fun _ _ => rfl) ?_
      refine y_gf rfl rfl rfl rfl rfl ?_
      refine y_gf rfl rfl rfl rfl rfl ?_
      show yP (xg xs) d 240 19 [(0, .ref 0), (1, .int c)] [.int (m.1 18 10), .int c] m _
      refine y_ige (t := 26) rfl rfl rfl (fun h19 => ?_) (fun h19 => ?_)
      · refine y_st rfl rfl rfl rfl rfl (fun _ _ => rfl) ?_
        show yP (xg xs) d 240 27 [(0, .ref 0), (1, .int c)] [.int (0 : Int32)] m _
        exact y_zret rfl rfl rfl (by decide) (by refine ⟨congrArg (fun z => some (Value.int z)) ?_, rfl⟩; grind)
      · refine y_st rfl rfl rfl rfl rfl (fun _ _ => rfl) ?_
        refine y_st rfl rfl rfl rfl rfl (fun _ _ => rfl) ?_
        show yP (xg xs) d 240 27 [(0, .ref 0), (1, .int c)] [.int (1 : Int32)] m _
        exact y_zret rfl rfl rfl (by decide) (by refine ⟨congrArg (fun z => some (Value.int z)) ?_, rfl⟩; grind)
/-- four bytes behind a text of k bytes, n being that number as an int -/
def ap4 (m : yM) (n : Int32) (k c s t : Nat) (b0 b1 b2 b3 : Int32) : yM :=
  y_si (y_si (y_si (y_si (y_si (y_si (y_si (y_si m t k b0) c s (n + 1)) t (k + 1) b1) c s (n + 1 + 1)) t (k + 2) b2) c s (n + 1 + 1 + 1)) t (k + 3) b3) c s (n + 1 + 1 + 1 + 1)
/-- the bytes as the class cuts them, and as the reference does -/
def bu (v s : Int32) : Int32 := vp_nar .byte ((v.toUInt32 >>> (s.toUInt32 &&& Int32.toUInt32 31)).toInt32.toInt8.toInt32)
def bs (v s : Int32) : Int32 := vp_nar .byte ((v >>> (s &&& 31)).toInt8.toInt32)
set_option maxRecDepth 20000 in
/-- CodeMaker.append -/
theorem c16 (xs : List Int32) (d : Nat) (m : yM) (v : Int32) (k : Nat) (hn : m.1 0 9 = nI k) (hk : k + 4 ≤ 8192) : yC (xg xs) d 16 [.ref 0, .int v] m (fun r m' => r = none ∧ m' = ap4 m (m.1 0 9) k 0 9 1 (bu v 24) (bu v 16) (bu v 8) (bu v 0)) := by
  have e0 : (m.1 0 9).toNatClampNeg = k := by rw [hn]; exact nI_clamp (by omega)
  have e1 : (m.1 0 9 + 1).toNatClampNeg = k + 1 := by rw [hn]; simp only [nI_1]; exact nI_clamp (by omega)
  have e2 : (m.1 0 9 + 1 + 1).toNatClampNeg = k + 2 := by rw [hn]; simp only [nI_1]; exact nI_clamp (by omega)
  have e3 : (m.1 0 9 + 1 + 1 + 1).toNatClampNeg = k + 3 := by rw [hn]; simp only [nI_1]; exact nI_clamp (by omega)
  refine y_st rfl rfl rfl rfl rfl (fun _ _ => rfl) ?_
  refine y_st rfl rfl rfl rfl rfl (fun _ _ => rfl) ?_
  refine y_st rfl rfl rfl rfl rfl (fun _ _ => rfl) ?_
  show yP (xg xs) d 16 4 [(2, .int (24 : Int32)), (0, .ref 0), (1, .int v)] [.int (24 : Int32)] m _
  refine y_zlt (t := 46) rfl rfl rfl (fun h4 => ?_) (fun h4 => ?_)
  · exact absurd h4 (by decide)
  · refine y_st rfl rfl rfl rfl rfl (fun _ _ => rfl) ?_
    refine y_gf rfl rfl rfl rfl rfl ?_
    refine y_st rfl rfl rfl rfl rfl (fun _ _ => rfl) ?_
    show yP (xg xs) d 16 14 [(2, .int (24 : Int32)), (0, .ref 0), (1, .int v)] [.int (8192 : Int32), .int (m.1 0 9)] m _
    refine y_ige (t := 46) rfl rfl rfl (fun h14 => ?_) (fun h14 => ?_)
    · exact absurd h14 (by rw [hn]; (try simp only [nI_1]); exact nI_ge (b := 8192) (by omega) (by decide))
    · refine y_st rfl rfl rfl rfl rfl (fun _ _ => rfl) ?_
      refine y_gf rfl rfl rfl rfl rfl ?_
      refine y_st rfl rfl rfl rfl rfl (fun _ _ => rfl) ?_
      refine y_gf rfl rfl rfl rfl rfl ?_
      refine y_st rfl rfl rfl rfl rfl (fun _ _ => rfl) ?_
      refine y_st rfl rfl rfl rfl rfl (fun _ _ => rfl) ?_
      refine y_st rfl rfl rfl rfl rfl (fun _ _ => rfl) ?_
      refine y_st rfl rfl rfl rfl rfl (fun _ _ => rfl) ?_
      show yP (xg xs) d 16 29 [(2, .int (24 : Int32)), (0, .ref 0), (1, .int v)] [.int (((v.toUInt32 >>> ((24 : Int32).toUInt32 &&& Int32.toUInt32 31)).toInt32).toInt8.toInt32), .int (m.1 0 9), .ref 1] m _
      refine y_bast rfl rfl rfl (by rw [hn]; (try simp only [nI_1]); exact x_in_nI (by omega) (by decide)) ?_
      refine y_st rfl rfl rfl rfl rfl (fun _ _ => rfl) ?_
      refine y_st rfl rfl rfl rfl rfl (fun _ _ => rfl) ?_
      refine y_gf rfl rfl rfl rfl rfl ?_
      refine y_st rfl rfl rfl rfl rfl (fun _ _ => rfl) ?_
      refine y_st rfl rfl rfl rfl rfl (fun _ _ => rfl) ?_
      refine y_pfi rfl rfl rfl rfl rfl (x_fit_i _) ?_
      show yP (xg xs) d 16 40 [(2, .int (24 : Int32)), (0, .ref 0), (1, .int v)] [] (y_si (y_si m 1 ((m.1 0 9).toNatClampNeg) (vp_nar .byte (((v.toUInt32 >>> ((24 : Int32).toUInt32 &&& Int32.toUInt32 31)).toInt32).toInt8.toInt32))) 0 9 ((m.1 0 9) + (1 : Int32))) _
      refine y_st rfl rfl rfl rfl rfl (fun _ _ => rfl) ?_
      refine y_st rfl rfl rfl rfl rfl (fun _ _ => rfl) ?_
      refine y_st rfl rfl rfl rfl rfl (fun _ _ => rfl) ?_
      show yP (xg xs) d 16 4 [(2, .int (16 : Int32)), (0, .ref 0), (1, .int v)] [.int (16 : Int32)] (y_si (y_si m 1 ((m.1 0 9).toNatClampNeg) (vp_nar .byte (((v.toUInt32 >>> ((24 : Int32).toUInt32 &&& Int32.toUInt32 31)).toInt32).toInt8.toInt32))) 0 9 ((m.1 0 9) + (1 : Int32))) _
      refine y_zlt (t := 46) rfl rfl rfl (fun h4 => ?_) (fun h4 => ?_)
      · exact absurd h4 (by decide)
      · refine y_st rfl rfl rfl rfl rfl (fun _ _ => rfl) ?_
        refine y_gf rfl rfl rfl rfl rfl ?_
        refine y_st rfl rfl rfl rfl rfl (fun _ _ => rfl) ?_
        show yP (xg xs) d 16 14 [(2, .int (16 : Int32)), (0, .ref 0), (1, .int v)] [.int (8192 : Int32), .int ((m.1 0 9) + (1 : Int32))] (y_si (y_si m 1 ((m.1 0 9).toNatClampNeg) (vp_nar .byte (((v.toUInt32 >>> ((24 : Int32).toUInt32 &&& Int32.toUInt32 31)).toInt32).toInt8.toInt32))) 0 9 ((m.1 0 9) + (1 : Int32))) _
        refine y_ige (t := 46) rfl rfl rfl (fun h14 => ?_) (fun h14 => ?_)
        · exact absurd h14 (by rw [hn]; (try simp only [nI_1]); exact nI_ge (b := 8192) (by omega) (by decide))
        · refine y_st rfl rfl rfl rfl rfl (fun _ _ => rfl) ?_
          refine y_gf rfl rfl rfl rfl rfl ?_
          refine y_st rfl rfl rfl rfl rfl (fun _ _ => rfl) ?_
          refine y_gf rfl rfl rfl rfl rfl ?_
          refine y_st rfl rfl rfl rfl rfl (fun _ _ => rfl) ?_
          refine y_st rfl rfl rfl rfl rfl (fun _ _ => rfl) ?_
          refine y_st rfl rfl rfl rfl rfl (fun _ _ => rfl) ?_
          refine y_st rfl rfl rfl rfl rfl (fun _ _ => rfl) ?_
          show yP (xg xs) d 16 29 [(2, .int (16 : Int32)), (0, .ref 0), (1, .int v)] [.int (((v.toUInt32 >>> ((16 : Int32).toUInt32 &&& Int32.toUInt32 31)).toInt32).toInt8.toInt32), .int ((m.1 0 9) + (1 : Int32)), .ref 1] (y_si (y_si m 1 ((m.1 0 9).toNatClampNeg) (vp_nar .byte (((v.toUInt32 >>> ((24 : Int32).toUInt32 &&& Int32.toUInt32 31)).toInt32).toInt8.toInt32))) 0 9 ((m.1 0 9) + (1 : Int32))) _
          refine y_bast rfl rfl rfl (by rw [hn]; (try simp only [nI_1]); exact x_in_nI (by omega) (by decide)) ?_
          refine y_st rfl rfl rfl rfl rfl (fun _ _ => rfl) ?_
          refine y_st rfl rfl rfl rfl rfl (fun _ _ => rfl) ?_
          refine y_gf rfl rfl rfl rfl rfl ?_
          refine y_st rfl rfl rfl rfl rfl (fun _ _ => rfl) ?_
          refine y_st rfl rfl rfl rfl rfl (fun _ _ => rfl) ?_
          refine y_pfi rfl rfl rfl rfl rfl (x_fit_i _) ?_
          show yP (xg xs) d 16 40 [(2, .int (16 : Int32)), (0, .ref 0), (1, .int v)] [] (y_si (y_si (y_si (y_si m 1 ((m.1 0 9).toNatClampNeg) (vp_nar .byte (((v.toUInt32 >>> ((24 : Int32).toUInt32 &&& Int32.toUInt32 31)).toInt32).toInt8.toInt32))) 0 9 ((m.1 0 9) + (1 : Int32))) 1 (((m.1 0 9) + (1 : Int32)).toNatClampNeg) (vp_nar .byte (((v.toUInt32 >>> ((16 : Int32).toUInt32 &&& Int32.toUInt32 31)).toInt32).toInt8.toInt32))) 0 9 (((m.1 0 9) + (1 : Int32)) + (1 : Int32))) _
          refine y_st rfl rfl rfl rfl rfl (fun _ _ => rfl) ?_
          refine y_st rfl rfl rfl rfl rfl (fun _ _ => rfl) ?_
          refine y_st rfl rfl rfl rfl rfl (fun _ _ => rfl) ?_
          show yP (xg xs) d 16 4 [(2, .int (8 : Int32)), (0, .ref 0), (1, .int v)] [.int (8 : Int32)] (y_si (y_si (y_si (y_si m 1 ((m.1 0 9).toNatClampNeg) (vp_nar .byte (((v.toUInt32 >>> ((24 : Int32).toUInt32 &&& Int32.toUInt32 31)).toInt32).toInt8.toInt32))) 0 9 ((m.1 0 9) + (1 : Int32))) 1 (((m.1 0 9) + (1 : Int32)).toNatClampNeg) (vp_nar .byte (((v.toUInt32 >>> ((16 : Int32).toUInt32 &&& Int32.toUInt32 31)).toInt32).toInt8.toInt32))) 0 9 (((m.1 0 9) + (1 : Int32)) + (1 : Int32))) _
          refine y_zlt (t := 46) rfl rfl rfl (fun h4 => ?_) (fun h4 => ?_)
          · exact absurd h4 (by decide)
          · refine y_st rfl rfl rfl rfl rfl (fun _ _ => rfl) ?_
            refine y_gf rfl rfl rfl rfl rfl ?_
            refine y_st rfl rfl rfl rfl rfl (fun _ _ => rfl) ?_
            show yP (xg xs) d 16 14 [(2, .int (8 : Int32)), (0, .ref 0), (1, .int v)] [.int (8192 : Int32), .int (((m.1 0 9) + (1 : Int32)) + (1 : Int32))] (y_si (y_si (y_si (y_si m 1 ((m.1 0 9).toNatClampNeg) (vp_nar .byte (((v.toUInt32 >>> ((24 : Int32).toUInt32 &&& Int32.toUInt32 31)).toInt32).toInt8.toInt32))) 0 9 ((m.1 0 9) + (1 : Int32))) 1 (((m.1 0 9) + (1 : Int32)).toNatClampNeg) (vp_nar .byte (((v.toUInt32 >>> ((16 : Int32).toUInt32 &&& Int32.toUInt32 31)).toInt32).toInt8.toInt32))) 0 9 (((m.1 0 9) + (1 : Int32)) + (1 : Int32))) _
            refine y_ige (t := 46) rfl rfl rfl (fun h14 => ?_) (fun h14 => ?_)
            · exact absurd h14 (by rw [hn]; (try simp only [nI_1]); exact nI_ge (b := 8192) (by omega) (by decide))
            · refine y_st rfl rfl rfl rfl rfl (fun _ _ => rfl) ?_
              refine y_gf rfl rfl rfl rfl rfl ?_
              refine y_st rfl rfl rfl rfl rfl (fun _ _ => rfl) ?_
              refine y_gf rfl rfl rfl rfl rfl ?_
              refine y_st rfl rfl rfl rfl rfl (fun _ _ => rfl) ?_
              refine y_st rfl rfl rfl rfl rfl (fun _ _ => rfl) ?_
              refine y_st rfl rfl rfl rfl rfl (fun _ _ => rfl) ?_
              refine y_st rfl rfl rfl rfl rfl (fun _ _ => rfl) ?_
              show yP (xg xs) d 16 29 [(2, .int (8 : Int32)), (0, .ref 0), (1, .int v)] [.int (((v.toUInt32 >>> ((8 : Int32).toUInt32 &&& Int32.toUInt32 31)).toInt32).toInt8.toInt32), .int (((m.1 0 9) + (1 : Int32)) + (1 : Int32)), .ref 1] (y_si (y_si (y_si (y_si m 1 ((m.1 0 9).toNatClampNeg) (vp_nar .byte (((v.toUInt32 >>> ((24 : Int32).toUInt32 &&& Int32.toUInt32 31)).toInt32).toInt8.toInt32))) 0 9 ((m.1 0 9) + (1 : Int32))) 1 (((m.1 0 9) + (1 : Int32)).toNatClampNeg) (vp_nar .byte (((v.toUInt32 >>> ((16 : Int32).toUInt32 &&& Int32.toUInt32 31)).toInt32).toInt8.toInt32))) 0 9 (((m.1 0 9) + (1 : Int32)) + (1 : Int32))) _
              refine y_bast rfl rfl rfl (by rw [hn]; (try simp only [nI_1]); exact x_in_nI (by omega) (by decide)) ?_
              refine y_st rfl rfl rfl rfl rfl (fun _ _ => rfl) ?_
              refine y_st rfl rfl rfl rfl rfl (fun _ _ => rfl) ?_
              refine y_gf rfl rfl rfl rfl rfl ?_
              refine y_st rfl rfl rfl rfl rfl (fun _ _ => rfl) ?_
              refine y_st rfl rfl rfl rfl rfl (fun _ _ => rfl) ?_
              refine y_pfi rfl rfl rfl rfl rfl (x_fit_i _) ?_
              show yP (xg xs) d 16 40 [(2, .int (8 : Int32)), (0, .ref 0), (1, .int v)] [] (y_si (y_si (y_si (y_si (y_si (y_si m 1 ((m.1 0 9).toNatClampNeg) (vp_nar .byte (((v.toUInt32 >>> ((24 : Int32).toUInt32 &&& Int32.toUInt32 31)).toInt32).toInt8.toInt32))) 0 9 ((m.1 0 9) + (1 : Int32))) 1 (((m.1 0 9) + (1 : Int32)).toNatClampNeg) (vp_nar .byte (((v.toUInt32 >>> ((16 : Int32).toUInt32 &&& Int32.toUInt32 31)).toInt32).toInt8.toInt32))) 0 9 (((m.1 0 9) + (1 : Int32)) + (1 : Int32))) 1 ((((m.1 0 9) + (1 : Int32)) + (1 : Int32)).toNatClampNeg) (vp_nar .byte (((v.toUInt32 >>> ((8 : Int32).toUInt32 &&& Int32.toUInt32 31)).toInt32).toInt8.toInt32))) 0 9 ((((m.1 0 9) + (1 : Int32)) + (1 : Int32)) + (1 : Int32))) _
              refine y_st rfl rfl rfl rfl rfl (fun _ _ => rfl) ?_
              refine y_st rfl rfl rfl rfl rfl (fun _ _ => rfl) ?_
              refine y_st rfl rfl rfl rfl rfl (fun _ _ => rfl) ?_
              show yP (xg xs) d 16 4 [(2, .int (0 : Int32)), (0, .ref 0), (1, .int v)] [.int (0 : Int32)] (y_si (y_si (y_si (y_si (y_si (y_si m 1 ((m.1 0 9).toNatClampNeg) (vp_nar .byte (((v.toUInt32 >>> ((24 : Int32).toUInt32 &&& Int32.toUInt32 31)).toInt32).toInt8.toInt32))) 0 9 ((m.1 0 9) + (1 : Int32))) 1 (((m.1 0 9) + (1 : Int32)).toNatClampNeg) (vp_nar .byte (((v.toUInt32 >>> ((16 : Int32).toUInt32 &&& Int32.toUInt32 31)).toInt32).toInt8.toInt32))) 0 9 (((m.1 0 9) + (1 : Int32)) + (1 : Int32))) 1 ((((m.1 0 9) + (1 : Int32)) + (1 : Int32)).toNatClampNeg) (vp_nar .byte (((v.toUInt32 >>> ((8 : Int32).toUInt32 &&& Int32.toUInt32 31)).toInt32).toInt8.toInt32))) 0 9 ((((m.1 0 9) + (1 : Int32)) + (1 : Int32)) + (1 : Int32))) _
              refine y_zlt (t := 46) rfl rfl rfl (fun h4 => ?_) (fun h4 => ?_)
              · exact absurd h4 (by decide)
              · refine y_st rfl rfl rfl rfl rfl (fun _ _ => rfl) ?_
                refine y_gf rfl rfl rfl rfl rfl ?_
                refine y_st rfl rfl rfl rfl rfl (fun _ _ => rfl) ?_
                show yP (xg xs) d 16 14 [(2, .int (0 : Int32)), (0, .ref 0), (1, .int v)] [.int (8192 : Int32), .int ((((m.1 0 9) + (1 : Int32)) + (1 : Int32)) + (1 : Int32))] (y_si (y_si (y_si (y_si (y_si (y_si m 1 ((m.1 0 9).toNatClampNeg) (vp_nar .byte (((v.toUInt32 >>> ((24 : Int32).toUInt32 &&& Int32.toUInt32 31)).toInt32).toInt8.toInt32))) 0 9 ((m.1 0 9) + (1 : Int32))) 1 (((m.1 0 9) + (1 : Int32)).toNatClampNeg) (vp_nar .byte (((v.toUInt32 >>> ((16 : Int32).toUInt32 &&& Int32.toUInt32 31)).toInt32).toInt8.toInt32))) 0 9 (((m.1 0 9) + (1 : Int32)) + (1 : Int32))) 1 ((((m.1 0 9) + (1 : Int32)) + (1 : Int32)).toNatClampNeg) (vp_nar .byte (((v.toUInt32 >>> ((8 : Int32).toUInt32 &&& Int32.toUInt32 31)).toInt32).toInt8.toInt32))) 0 9 ((((m.1 0 9) + (1 : Int32)) + (1 : Int32)) + (1 : Int32))) _
                refine y_ige (t := 46) rfl rfl rfl (fun h14 => ?_) (fun h14 => ?_)
                · exact absurd h14 (by rw [hn]; (try simp only [nI_1]); exact nI_ge (b := 8192) (by omega) (by decide))
                · refine y_st rfl rfl rfl rfl rfl (fun _ _ => rfl) ?_
                  refine y_gf rfl rfl rfl rfl rfl ?_
                  refine y_st rfl rfl rfl rfl rfl (fun _ _ => rfl) ?_
                  refine y_gf rfl rfl rfl rfl rfl ?_
                  refine y_st rfl rfl rfl rfl rfl (fun _ _ => rfl) ?_
                  refine y_st rfl rfl rfl rfl rfl (fun _ _ => rfl) ?_
                  refine y_st rfl rfl rfl rfl rfl (fun _ _ => rfl) ?_
                  refine y_st rfl rfl rfl rfl rfl (fun _ _ => rfl) ?_
                  show yP (xg xs) d 16 29 [(2, .int (0 : Int32)), (0, .ref 0), (1, .int v)] [.int (((v.toUInt32 >>> ((0 : Int32).toUInt32 &&& Int32.toUInt32 31)).toInt32).toInt8.toInt32), .int ((((m.1 0 9) + (1 : Int32)) + (1 : Int32)) + (1 : Int32)), .ref 1] (y_si (y_si (y_si (y_si (y_si (y_si m 1 ((m.1 0 9).toNatClampNeg) (vp_nar .byte (((v.toUInt32 >>> ((24 : Int32).toUInt32 &&& Int32.toUInt32 31)).toInt32).toInt8.toInt32))) 0 9 ((m.1 0 9) + (1 : Int32))) 1 (((m.1 0 9) + (1 : Int32)).toNatClampNeg) (vp_nar .byte (((v.toUInt32 >>> ((16 : Int32).toUInt32 &&& Int32.toUInt32 31)).toInt32).toInt8.toInt32))) 0 9 (((m.1 0 9) + (1 : Int32)) + (1 : Int32))) 1 ((((m.1 0 9) + (1 : Int32)) + (1 : Int32)).toNatClampNeg) (vp_nar .byte (((v.toUInt32 >>> ((8 : Int32).toUInt32 &&& Int32.toUInt32 31)).toInt32).toInt8.toInt32))) 0 9 ((((m.1 0 9) + (1 : Int32)) + (1 : Int32)) + (1 : Int32))) _
                  refine y_bast rfl rfl rfl (by rw [hn]; (try simp only [nI_1]); exact x_in_nI (by omega) (by decide)) ?_
                  refine y_st rfl rfl rfl rfl rfl (fun _ _ => rfl) ?_
                  refine y_st rfl rfl rfl rfl rfl (fun _ _ => rfl) ?_
                  refine y_gf rfl rfl rfl rfl rfl ?_
                  refine y_st rfl rfl rfl rfl rfl (fun _ _ => rfl) ?_
                  refine y_st rfl rfl rfl rfl rfl (fun _ _ => rfl) ?_
                  refine y_pfi rfl rfl rfl rfl rfl (x_fit_i _) ?_
                  show yP (xg xs) d 16 40 [(2, .int (0 : Int32)), (0, .ref 0), (1, .int v)] [] (y_si (y_si (y_si (y_si (y_si (y_si (y_si (y_si m 1 ((m.1 0 9).toNatClampNeg) (vp_nar .byte (((v.toUInt32 >>> ((24 : Int32).toUInt32 &&& Int32.toUInt32 31)).toInt32).toInt8.toInt32))) 0 9 ((m.1 0 9) + (1 : Int32))) 1 (((m.1 0 9) + (1 : Int32)).toNatClampNeg) (vp_nar .byte (((v.toUInt32 >>> ((16 : Int32).toUInt32 &&& Int32.toUInt32 31)).toInt32).toInt8.toInt32))) 0 9 (((m.1 0 9) + (1 : Int32)) + (1 : Int32))) 1 ((((m.1 0 9) + (1 : Int32)) + (1 : Int32)).toNatClampNeg) (vp_nar .byte (((v.toUInt32 >>> ((8 : Int32).toUInt32 &&& Int32.toUInt32 31)).toInt32).toInt8.toInt32))) 0 9 ((((m.1 0 9) + (1 : Int32)) + (1 : Int32)) + (1 : Int32))) 1 (((((m.1 0 9) + (1 : Int32)) + (1 : Int32)) + (1 : Int32)).toNatClampNeg) (vp_nar .byte (((v.toUInt32 >>> ((0 : Int32).toUInt32 &&& Int32.toUInt32 31)).toInt32).toInt8.toInt32))) 0 9 (((((m.1 0 9) + (1 : Int32)) + (1 : Int32)) + (1 : Int32)) + (1 : Int32))) _
                  refine y_st rfl rfl rfl rfl rfl (fun _ _ => rfl) ?_
                  refine y_st rfl rfl rfl rfl rfl (fun _ _ => rfl) ?_
                  refine y_st rfl rfl rfl rfl rfl (fun _ _ => rfl) ?_
                  show yP (xg xs) d 16 4 [(2, .int ((-8) : Int32)), (0, .ref 0), (1, .int v)] [.int ((-8) : Int32)] (y_si (y_si (y_si (y_si (y_si (y_si (y_si (y_si m 1 ((m.1 0 9).toNatClampNeg) (vp_nar .byte (((v.toUInt32 >>> ((24 : Int32).toUInt32 &&& Int32.toUInt32 31)).toInt32).toInt8.toInt32))) 0 9 ((m.1 0 9) + (1 : Int32))) 1 (((m.1 0 9) + (1 : Int32)).toNatClampNeg) (vp_nar .byte (((v.toUInt32 >>> ((16 : Int32).toUInt32 &&& Int32.toUInt32 31)).toInt32).toInt8.toInt32))) 0 9 (((m.1 0 9) + (1 : Int32)) + (1 : Int32))) 1 ((((m.1 0 9) + (1 : Int32)) + (1 : Int32)).toNatClampNeg) (vp_nar .byte (((v.toUInt32 >>> ((8 : Int32).toUInt32 &&& Int32.toUInt32 31)).toInt32).toInt8.toInt32))) 0 9 ((((m.1 0 9) + (1 : Int32)) + (1 : Int32)) + (1 : Int32))) 1 (((((m.1 0 9) + (1 : Int32)) + (1 : Int32)) + (1 : Int32)).toNatClampNeg) (vp_nar .byte (((v.toUInt32 >>> ((0 : Int32).toUInt32 &&& Int32.toUInt32 31)).toInt32).toInt8.toInt32))) 0 9 (((((m.1 0 9) + (1 : Int32)) + (1 : Int32)) + (1 : Int32)) + (1 : Int32))) _
                  refine y_zlt (t := 46) rfl rfl rfl (fun h4 => ?_) (fun h4 => ?_)
                  · show yP (xg xs) d 16 46 [(2, .int ((-8) : Int32)), (0, .ref 0), (1, .int v)] [] (y_si (y_si (y_si (y_si (y_si (y_si (y_si (y_si m 1 ((m.1 0 9).toNatClampNeg) (vp_nar .byte (((v.toUInt32 >>> ((24 : Int32).toUInt32 &&& Int32.toUInt32 31)).toInt32).toInt8.toInt32))) 0 9 ((m.1 0 9) + (1 : Int32))) 1 (((m.1 0 9) + (1 : Int32)).toNatClampNeg) (vp_nar .byte (((v.toUInt32 >>> ((16 : Int32).toUInt32 &&& Int32.toUInt32 31)).toInt32).toInt8.toInt32))) 0 9 (((m.1 0 9) + (1 : Int32)) + (1 : Int32))) 1 ((((m.1 0 9) + (1 : Int32)) + (1 : Int32)).toNatClampNeg) (vp_nar .byte (((v.toUInt32 >>> ((8 : Int32).toUInt32 &&& Int32.toUInt32 31)).toInt32).toInt8.toInt32))) 0 9 ((((m.1 0 9) + (1 : Int32)) + (1 : Int32)) + (1 : Int32))) 1 (((((m.1 0 9) + (1 : Int32)) + (1 : Int32)) + (1 : Int32)).toNatClampNeg) (vp_nar .byte (((v.toUInt32 >>> ((0 : Int32).toUInt32 &&& Int32.toUInt32 31)).toInt32).toInt8.toInt32))) 0 9 (((((m.1 0 9) + (1 : Int32)) + (1 : Int32)) + (1 : Int32)) + (1 : Int32))) _
                    exact y_ret rfl rfl rfl rfl (by refine ⟨rfl, ?_⟩; simp only [e0, e1, e2, e3]; rfl)
                  · exact absurd h4 (by decide)
set_option maxRecDepth 20000 in
/-- reference: addFour -/
theorem c267 (xs : List Int32) (d : Nat) (m : yM) (v : Int32) (k : Nat) (hn : m.1 58 2 = nI k) (hk : k + 4 ≤ 8192) : yC (xg xs) d 267 [.ref 58, .int v] m (fun r m' => r = none ∧ m' = ap4 m (m.1 58 2) k 58 2 59 (bs v 24) (bs v 16) (bs v 8) (bs v 0)) := by
  have e0 : (m.1 58 2).toNatClampNeg = k := by rw [hn]; exact nI_clamp (by omega)
  have e1 : (m.1 58 2 + 1).toNatClampNeg = k + 1 := by rw [hn]; simp only [nI_1]; exact nI_clamp (by omega)
  have e2 : (m.1 58 2 + 1 + 1).toNatClampNeg = k + 2 := by rw [hn]; simp only [nI_1]; exact nI_clamp (by omega)
  have e3 : (m.1 58 2 + 1 + 1 + 1).toNatClampNeg = k + 3 := by rw [hn]; simp only [nI_1]; exact nI_clamp (by omega)
  refine y_st rfl rfl rfl rfl rfl (fun _ _ => rfl) ?_
  refine y_st rfl rfl rfl rfl rfl (fun _ _ => rfl) ?_
  refine y_st rfl rfl rfl rfl rfl (fun _ _ => rfl) ?_
  show yP (xg xs) d 267 4 [(2, .int (24 : Int32)), (0, .ref 58), (1, .int v)] [.int (24 : Int32)] m _
  refine y_zlt (t := 36) rfl rfl rfl (fun h4 => ?_) (fun h4 => ?_)
  · exact absurd h4 (by decide)
  · refine y_st rfl rfl rfl rfl rfl (fun _ _ => rfl) ?_
    refine y_gf rfl rfl rfl rfl rfl ?_
    refine y_st rfl rfl rfl rfl rfl (fun _ _ => rfl) ?_
    refine y_gf rfl rfl rfl rfl rfl ?_
    refine y_st rfl rfl rfl rfl rfl (fun _ _ => rfl) ?_
    refine y_st rfl rfl rfl rfl rfl (fun _ _ => rfl) ?_
    refine y_st rfl rfl rfl rfl rfl (fun _ _ => rfl) ?_
    refine y_st rfl rfl rfl rfl rfl (fun _ _ => rfl) ?_
    show yP (xg xs) d 267 19 [(2, .int (24 : Int32)), (0, .ref 58), (1, .int v)] [.int ((v >>> ((24 : Int32) &&& 31)).toInt8.toInt32), .int (m.1 58 2), .ref 59] m _
    refine y_bast rfl rfl rfl (by rw [hn]; (try simp only [nI_1]); exact x_in_nI (by omega) (by decide)) ?_
    refine y_st rfl rfl rfl rfl rfl (fun _ _ => rfl) ?_
    refine y_st rfl rfl rfl rfl rfl (fun _ _ => rfl) ?_
    refine y_gf rfl rfl rfl rfl rfl ?_
    refine y_st rfl rfl rfl rfl rfl (fun _ _ => rfl) ?_
    refine y_st rfl rfl rfl rfl rfl (fun _ _ => rfl) ?_
    refine y_pfi rfl rfl rfl rfl rfl (x_fit_i _) ?_
    show yP (xg xs) d 267 30 [(2, .int (24 : Int32)), (0, .ref 58), (1, .int v)] [] (y_si (y_si m 59 ((m.1 58 2).toNatClampNeg) (vp_nar .byte ((v >>> ((24 : Int32) &&& 31)).toInt8.toInt32))) 58 2 ((m.1 58 2) + (1 : Int32))) _
    refine y_st rfl rfl rfl rfl rfl (fun _ _ => rfl) ?_
    refine y_st rfl rfl rfl rfl rfl (fun _ _ => rfl) ?_
    refine y_st rfl rfl rfl rfl rfl (fun _ _ => rfl) ?_
    show yP (xg xs) d 267 4 [(2, .int (16 : Int32)), (0, .ref 58), (1, .int v)] [.int (16 : Int32)] (y_si (y_si m 59 ((m.1 58 2).toNatClampNeg) (vp_nar .byte ((v >>> ((24 : Int32) &&& 31)).toInt8.toInt32))) 58 2 ((m.1 58 2) + (1 : Int32))) _
    refine y_zlt (t := 36) rfl rfl rfl (fun h4 => ?_) (fun h4 => ?_)
    · exact absurd h4 (by decide)
    · refine y_st rfl rfl rfl rfl rfl (fun _ _ => rfl) ?_
      refine y_gf rfl rfl rfl rfl rfl ?_
      refine y_st rfl rfl rfl rfl rfl (fun _ _ => rfl) ?_
      refine y_gf rfl rfl rfl rfl rfl ?_
      refine y_st rfl rfl rfl rfl rfl (fun _ _ => rfl) ?_
      refine y_st rfl rfl rfl rfl rfl (fun _ _ => rfl) ?_
      refine y_st rfl rfl rfl rfl rfl (fun _ _ => rfl) ?_
      refine y_st rfl rfl rfl rfl rfl (fun _ _ => rfl) ?_
      show yP (xg xs) d 267 19 [(2, .int (16 : Int32)), (0, .ref 58), (1, .int v)] [.int ((v >>> ((16 : Int32) &&& 31)).toInt8.toInt32), .int ((m.1 58 2) + (1 : Int32)), .ref 59] (y_si (y_si m 59 ((m.1 58 2).toNatClampNeg) (vp_nar .byte ((v >>> ((24 : Int32) &&& 31)).toInt8.toInt32))) 58 2 ((m.1 58 2) + (1 : Int32))) _
      refine y_bast rfl rfl rfl (by rw [hn]; (try simp only [nI_1]); exact x_in_nI (by omega) (by decide)) ?_
      refine y_st rfl rfl rfl rfl rfl (fun _ _ => rfl) ?_
      refine y_st rfl rfl rfl rfl rfl (fun _ _ => rfl) ?_
      refine y_gf rfl rfl rfl rfl rfl ?_
      refine y_st rfl rfl rfl rfl rfl (fun _ _ => rfl) ?_
      refine y_st rfl rfl rfl rfl rfl (fun _ _ => rfl) ?_
      refine y_pfi rfl rfl rfl rfl rfl (x_fit_i _) ?_
      show yP (xg xs) d 267 30 [(2, .int (16 : Int32)), (0, .ref 58), (1, .int v)] [] (y_si (y_si (y_si (y_si m 59 ((m.1 58 2).toNatClampNeg) (vp_nar .byte ((v >>> ((24 : Int32) &&& 31)).toInt8.toInt32))) 58 2 ((m.1 58 2) + (1 : Int32))) 59 (((m.1 58 2) + (1 : Int32)).toNatClampNeg) (vp_nar .byte ((v >>> ((16 : Int32) &&& 31)).toInt8.toInt32))) 58 2 (((m.1 58 2) + (1 : Int32)) + (1 : Int32))) _
      refine y_st rfl rfl rfl rfl rfl (fun _ _ => rfl) ?_
      refine y_st rfl rfl rfl rfl rfl (fun _ _ => rfl) ?_
      refine y_st rfl rfl rfl rfl rfl (fun _ _ => rfl) ?_
      show yP (xg xs) d 267 4 [(2, .int (8 : Int32)), (0, .ref 58), (1, .int v)] [.int (8 : Int32)] (y_si (y_si (y_si (y_si m 59 ((m.1 58 2).toNatClampNeg) (vp_nar .byte ((v >>> ((24 : Int32) &&& 31)).toInt8.toInt32))) 58 2 ((m.1 58 2) + (1 : Int32))) 59 (((m.1 58 2) + (1 : Int32)).toNatClampNeg) (vp_nar .byte ((v >>> ((16 : Int32) &&& 31)).toInt8.toInt32))) 58 2 (((m.1 58 2) + (1 : Int32)) + (1 : Int32))) _
      refine y_zlt (t := 36) rfl rfl rfl (fun h4 => ?_) (fun h4 => ?_)
      · exact absurd h4 (by decide)
      · refine y_st rfl rfl rfl rfl rfl (fun _ _ => rfl) ?_
        refine y_gf rfl rfl rfl rfl rfl ?_
        refine y_st rfl rfl rfl rfl rfl (fun _ _ => rfl) ?_
        refine y_gf rfl rfl rfl rfl rfl ?_
        refine y_st rfl rfl rfl rfl rfl (fun _ _ => rfl) ?_
        refine y_st rfl rfl rfl rfl rfl (fun _ _ => rfl) ?_
        refine y_st rfl rfl rfl rfl rfl (fun _ _ => rfl) ?_
        refine y_st rfl rfl rfl rfl rfl (fun _ _ => rfl) ?_
        show yP (xg xs) d 267 19 [(2, .int (8 : Int32)), (0, .ref 58), (1, .int v)] [.int ((v >>> ((8 : Int32) &&& 31)).toInt8.toInt32), .int (((m.1 58 2) + (1 : Int32)) + (1 : Int32)), .ref 59] (y_si (y_si (y_si (y_si m 59 ((m.1 58 2).toNatClampNeg) (vp_nar .byte ((v >>> ((24 : Int32) &&& 31)).toInt8.toInt32))) 58 2 ((m.1 58 2) + (1 : Int32))) 59 (((m.1 58 2) + (1 : Int32)).toNatClampNeg) (vp_nar .byte ((v >>> ((16 : Int32) &&& 31)).toInt8.toInt32))) 58 2 (((m.1 58 2) + (1 : Int32)) + (1 : Int32))) _
        refine y_bast rfl rfl rfl (by rw [hn]; (try simp only [nI_1]); exact x_in_nI (by omega) (by decide)) ?_
        refine y_st rfl rfl rfl rfl rfl (fun _ _ => rfl) ?_
        refine y_st rfl rfl rfl rfl rfl (fun _ _ => rfl) ?_
        refine y_gf rfl rfl rfl rfl rfl ?_
        refine y_st rfl rfl rfl rfl rfl (fun _ _ => rfl) ?_
        refine y_st rfl rfl rfl rfl rfl (fun _ _ => rfl) ?_
        refine y_pfi rfl rfl rfl rfl rfl (x_fit_i _) ?_
        show yP (xg xs) d 267 30 [(2, .int (8 : Int32)), (0, .ref 58), (1, .int v)] [] (y_si (y_si (y_si (y_si (y_si (y_si m 59 ((m.1 58 2).toNatClampNeg) (vp_nar .byte ((v >>> ((24 : Int32) &&& 31)).toInt8.toInt32))) 58 2 ((m.1 58 2) + (1 : Int32))) 59 (((m.1 58 2) + (1 : Int32)).toNatClampNeg) (vp_nar .byte ((v >>> ((16 : Int32) &&& 31)).toInt8.toInt32))) 58 2 (((m.1 58 2) + (1 : Int32)) + (1 : Int32))) 59 ((((m.1 58 2) + (1 : Int32)) + (1 : Int32)).toNatClampNeg) (vp_nar .byte ((v >>> ((8 : Int32) &&& 31)).toInt8.toInt32))) 58 2 ((((m.1 58 2) + (1 : Int32)) + (1 : Int32)) + (1 : Int32))) _
        refine y_st rfl rfl rfl rfl rfl (fun _ _ => rfl) ?_
        refine y_st rfl rfl rfl rfl rfl (fun _ _ => rfl) ?_
        refine y_st rfl rfl rfl rfl rfl (fun _ _ => rfl) ?_
        show yP (xg xs) d 267 4 [(2, .int (0 : Int32)), (0, .ref 58), (1, .int v)] [.int (0 : Int32)] (y_si (y_si (y_si (y_si (y_si (y_si m 59 ((m.1 58 2).toNatClampNeg) (vp_nar .byte ((v >>> ((24 : Int32) &&& 31)).toInt8.toInt32))) 58 2 ((m.1 58 2) + (1 : Int32))) 59 (((m.1 58 2) + (1 : Int32)).toNatClampNeg) (vp_nar .byte ((v >>> ((16 : Int32) &&& 31)).toInt8.toInt32))) 58 2 (((m.1 58 2) + (1 : Int32)) + (1 : Int32))) 59 ((((m.1 58 2) + (1 : Int32)) + (1 : Int32)).toNatClampNeg) (vp_nar .byte ((v >>> ((8 : Int32) &&& 31)).toInt8.toInt32))) 58 2 ((((m.1 58 2) + (1 : Int32)) + (1 : Int32)) + (1 : Int32))) _
        refine y_zlt (t := 36) rfl rfl rfl (fun h4 => ?_) (fun h4 => ?_)
        · exact absurd h4 (by decide)
        · refine y_st rfl rfl rfl rfl rfl (fun _ _ => rfl) ?_
          refine y_gf rfl rfl rfl rfl rfl ?_
          refine y_st rfl rfl rfl rfl rfl (fun _ _ => rfl) ?_
          refine y_gf rfl rfl rfl rfl rfl ?_
          refine y_st rfl rfl rfl rfl rfl (fun _ _ => rfl) ?_
          refine y_st rfl rfl rfl rfl rfl (fun _ _ => rfl) ?_
          refine y_st rfl rfl rfl rfl rfl (fun _ _ => rfl) ?_
          refine y_st rfl rfl rfl rfl rfl (fun _ _ => rfl) ?_
          show yP (xg xs) d 267 19 [(2, .int (0 : Int32)), (0, .ref 58), (1, .int v)] [.int ((v >>> ((0 : Int32) &&& 31)).toInt8.toInt32), .int ((((m.1 58 2) + (1 : Int32)) + (1 : Int32)) + (1 : Int32)), .ref 59] (y_si (y_si (y_si (y_si (y_si (y_si m 59 ((m.1 58 2).toNatClampNeg) (vp_nar .byte ((v >>> ((24 : Int32) &&& 31)).toInt8.toInt32))) 58 2 ((m.1 58 2) + (1 : Int32))) 59 (((m.1 58 2) + (1 : Int32)).toNatClampNeg) (vp_nar .byte ((v >>> ((16 : Int32) &&& 31)).toInt8.toInt32))) 58 2 (((m.1 58 2) + (1 : Int32)) + (1 : Int32))) 59 ((((m.1 58 2) + (1 : Int32)) + (1 : Int32)).toNatClampNeg) (vp_nar .byte ((v >>> ((8 : Int32) &&& 31)).toInt8.toInt32))) 58 2 ((((m.1 58 2) + (1 : Int32)) + (1 : Int32)) + (1 : Int32))) _
          refine y_bast rfl rfl rfl (by rw [hn]; (try simp only [nI_1]); exact x_in_nI (by omega) (by decide)) ?_
          refine y_st rfl rfl rfl rfl rfl (fun _ _ => rfl) ?_
          refine y_st rfl rfl rfl rfl rfl (fun _ _ => rfl) ?_
          refine y_gf rfl rfl rfl rfl rfl ?_
          refine y_st rfl rfl rfl rfl rfl (fun _ _ => rfl) ?_
          refine y_st rfl rfl rfl rfl rfl (fun _ _ => rfl) ?_
          refine y_pfi rfl rfl rfl rfl rfl (x_fit_i _) ?_
          show yP (xg xs) d 267 30 [(2, .int (0 : Int32)), (0, .ref 58), (1, .int v)] [] (y_si (y_si (y_si (y_si (y_si (y_si (y_si (y_si m 59 ((m.1 58 2).toNatClampNeg) (vp_nar .byte ((v >>> ((24 : Int32) &&& 31)).toInt8.toInt32))) 58 2 ((m.1 58 2) + (1 : Int32))) 59 (((m.1 58 2) + (1 : Int32)).toNatClampNeg) (vp_nar .byte ((v >>> ((16 : Int32) &&& 31)).toInt8.toInt32))) 58 2 (((m.1 58 2) + (1 : Int32)) + (1 : Int32))) 59 ((((m.1 58 2) + (1 : Int32)) + (1 : Int32)).toNatClampNeg) (vp_nar .byte ((v >>> ((8 : Int32) &&& 31)).toInt8.toInt32))) 58 2 ((((m.1 58 2) + (1 : Int32)) + (1 : Int32)) + (1 : Int32))) 59 (((((m.1 58 2) + (1 : Int32)) + (1 : Int32)) + (1 : Int32)).toNatClampNeg) (vp_nar .byte ((v >>> ((0 : Int32) &&& 31)).toInt8.toInt32))) 58 2 (((((m.1 58 2) + (1 : Int32)) + (1 : Int32)) + (1 : Int32)) + (1 : Int32))) _
          refine y_st rfl rfl rfl rfl rfl (fun _ _ => rfl) ?_
          refine y_st rfl rfl rfl rfl rfl (fun _ _ => rfl) ?_
          refine y_st rfl rfl rfl rfl rfl (fun _ _ => rfl) ?_
          show yP (xg xs) d 267 4 [(2, .int ((-8) : Int32)), (0, .ref 58), (1, .int v)] [.int ((-8) : Int32)] (y_si (y_si (y_si (y_si (y_si (y_si (y_si (y_si m 59 ((m.1 58 2).toNatClampNeg) (vp_nar .byte ((v >>> ((24 : Int32) &&& 31)).toInt8.toInt32))) 58 2 ((m.1 58 2) + (1 : Int32))) 59 (((m.1 58 2) + (1 : Int32)).toNatClampNeg) (vp_nar .byte ((v >>> ((16 : Int32) &&& 31)).toInt8.toInt32))) 58 2 (((m.1 58 2) + (1 : Int32)) + (1 : Int32))) 59 ((((m.1 58 2) + (1 : Int32)) + (1 : Int32)).toNatClampNeg) (vp_nar .byte ((v >>> ((8 : Int32) &&& 31)).toInt8.toInt32))) 58 2 ((((m.1 58 2) + (1 : Int32)) + (1 : Int32)) + (1 : Int32))) 59 (((((m.1 58 2) + (1 : Int32)) + (1 : Int32)) + (1 : Int32)).toNatClampNeg) (vp_nar .byte ((v >>> ((0 : Int32) &&& 31)).toInt8.toInt32))) 58 2 (((((m.1 58 2) + (1 : Int32)) + (1 : Int32)) + (1 : Int32)) + (1 : Int32))) _
          refine y_zlt (t := 36) rfl rfl rfl (fun h4 => ?_) (fun h4 => ?_)
          · show yP (xg xs) d 267 36 [(2, .int ((-8) : Int32)), (0, .ref 58), (1, .int v)] [] (y_si (y_si (y_si (y_si (y_si (y_si (y_si (y_si m 59 ((m.1 58 2).toNatClampNeg) (vp_nar .byte ((v >>> ((24 : Int32) &&& 31)).toInt8.toInt32))) 58 2 ((m.1 58 2) + (1 : Int32))) 59 (((m.1 58 2) + (1 : Int32)).toNatClampNeg) (vp_nar .byte ((v >>> ((16 : Int32) &&& 31)).toInt8.toInt32))) 58 2 (((m.1 58 2) + (1 : Int32)) + (1 : Int32))) 59 ((((m.1 58 2) + (1 : Int32)) + (1 : Int32)).toNatClampNeg) (vp_nar .byte ((v >>> ((8 : Int32) &&& 31)).toInt8.toInt32))) 58 2 ((((m.1 58 2) + (1 : Int32)) + (1 : Int32)) + (1 : Int32))) 59 (((((m.1 58 2) + (1 : Int32)) + (1 : Int32)) + (1 : Int32)).toNatClampNeg) (vp_nar .byte ((v >>> ((0 : Int32) &&& 31)).toInt8.toInt32))) 58 2 (((((m.1 58 2) + (1 : Int32)) + (1 : Int32)) + (1 : Int32)) + (1 : Int32))) _
            exact y_ret rfl rfl rfl rfl (by refine ⟨rfl, ?_⟩; simp only [e0, e1, e2, e3]; rfl)
          · exact absurd h4 (by decide)
theorem ap4_n {m : yM} {n : Int32} {k c s t : Nat} {b0 b1 b2 b3 : Int32} (h : n = nI k) : (ap4 m n k c s t b0 b1 b2 b3).1 c s = nI (k + 4) := by
  unfold ap4
  rw [y_si_same, h]
  simp only [nI_1]
/-- what append does, and addFour -/
def apX (m : yM) (v : Int32) (k : Nat) : yM := ap4 m (m.1 0 9) k 0 9 1 (bu v 24) (bu v 16) (bu v 8) (bu v 0)
def apY (m : yM) (v : Int32) (k : Nat) : yM := ap4 m (m.1 58 2) k 58 2 59 (bs v 24) (bs v 16) (bs v 8) (bs v 0)
theorem apX_n {m : yM} {v : Int32} {k : Nat} (h : m.1 0 9 = nI k) : (apX m v k).1 0 9 = nI (k + 4) := ap4_n h
theorem apY_n {m : yM} {v : Int32} {k : Nat} (h : m.1 58 2 = nI k) : (apY m v k).1 58 2 = nI (k + 4) := ap4_n h
def fdX (m : yM) (k : Nat) (v1 v2 v3 v4 v5 : Int32) : yM := apX (apX (apX (apX (apX m v1 k) v2 (k + 4)) v3 (k + 4 + 4)) v4 (k + 4 + 4 + 4)) v5 (k + 4 + 4 + 4 + 4)
def fdY (m : yM) (k : Nat) (v1 v2 v3 v4 v5 : Int32) : yM := apY (apY (apY (apY (apY (y_si m 58 0 0) v1 k) v2 (k + 4)) v3 (k + 4 + 4)) v4 (k + 4 + 4 + 4)) v5 (k + 4 + 4 + 4 + 4)
set_option maxRecDepth 20000 in
/-- CodeMaker.feed -/
theorem c15 (xs : List Int32) (d : Nat) (m : yM) (w1 w2 w3 w4 w5 : Int32) (k : Nat) (hn0 : m.1 0 9 = nI k) (hk : k ≤ 8192) : yC (xg xs) (d + 1) 15 [.ref 0, .int w1, .int w2, .int w3, .int w4, .int w5] m (fun r m' => if 8172 < k then r = some (.int (-1)) ∧ m' = m else r = some (.int (nI (k + 20))) ∧ m' = fdX m k w1 w2 w3 w4 w5) := by
  have hk31 : k < 2 ^ 31 := by omega
  refine y_st rfl rfl rfl rfl rfl (fun _ _ => rfl) ?_
  refine y_gf rfl rfl rfl rfl rfl ?_
  refine y_st rfl rfl rfl rfl rfl (fun _ _ => rfl) ?_
  show yP (xg xs) (d + 1) 15 7 [(0, .ref 0), (1, .int w1), (2, .int w2), (3, .int w3), (4, .int w4), (5, .int w5)] [.int (8172 : Int32), .int (m.1 0 9)] m _
  refine y_ile (t := 12) rfl rfl rfl (fun h7 => ?_) (fun h7 => ?_)
  · have hn := hn0
    have hk2 : k ≤ 8172 := (nI_leI hk31 (by decide)).mp (by rw [← hn0]; exact h7)
    refine y_st rfl rfl rfl rfl rfl (fun _ _ => rfl) ?_
    refine y_st rfl rfl rfl rfl rfl (fun _ _ => rfl) ?_
    show yP (xg xs) (d + 1) 15 14 [(0, .ref 0), (1, .int w1), (2, .int w2), (3, .int w3), (4, .int w4), (5, .int w5)] [.int w1, .ref 0] m _
    refine y_call rfl rfl rfl rfl rfl (Nat.le_of_ble_eq_true rfl) (Nat.le_of_ble_eq_true rfl) rfl (by decide) (c16 xs d m w1 (k) hn (by omega)) (fun v1 m1 q1 => ?_)
    obtain ⟨rfl, rfl⟩ := q1; have n1 := apX_n (v := w1) hn
    refine y_st rfl rfl rfl rfl rfl (fun _ _ => rfl) ?_
    refine y_st rfl rfl rfl rfl rfl (fun _ _ => rfl) ?_
    show yP (xg xs) (d + 1) 15 19 [(0, .ref 0), (1, .int w1), (2, .int w2), (3, .int w3), (4, .int w4), (5, .int w5)] [.int w2, .ref 0] (apX m w1 (k)) _
    refine y_call rfl rfl rfl rfl rfl (Nat.le_of_ble_eq_true rfl) (Nat.le_of_ble_eq_true rfl) rfl (by decide) (c16 xs d (apX m w1 (k)) w2 (k + 4) n1 (by omega)) (fun v2 m2 q2 => ?_)
    obtain ⟨rfl, rfl⟩ := q2; have n2 := apX_n (v := w2) n1
    refine y_st rfl rfl rfl rfl rfl (fun _ _ => rfl) ?_
    refine y_st rfl rfl rfl rfl rfl (fun _ _ => rfl) ?_
    show yP (xg xs) (d + 1) 15 24 [(0, .ref 0), (1, .int w1), (2, .int w2), (3, .int w3), (4, .int w4), (5, .int w5)] [.int w3, .ref 0] (apX (apX m w1 (k)) w2 (k + 4)) _
    refine y_call rfl rfl rfl rfl rfl (Nat.le_of_ble_eq_true rfl) (Nat.le_of_ble_eq_true rfl) rfl (by decide) (c16 xs d (apX (apX m w1 (k)) w2 (k + 4)) w3 (k + 4 + 4) n2 (by omega)) (fun v3 m3 q3 => ?_)
    obtain ⟨rfl, rfl⟩ := q3; have n3 := apX_n (v := w3) n2
    refine y_st rfl rfl rfl rfl rfl (fun _ _ => rfl) ?_
    refine y_st rfl rfl rfl rfl rfl (fun _ _ => rfl) ?_
    show yP (xg xs) (d + 1) 15 30 [(0, .ref 0), (1, .int w1), (2, .int w2), (3, .int w3), (4, .int w4), (5, .int w5)] [.int w4, .ref 0] (apX (apX (apX m w1 (k)) w2 (k + 4)) w3 (k + 4 + 4)) _
    refine y_call rfl rfl rfl rfl rfl (Nat.le_of_ble_eq_true rfl) (Nat.le_of_ble_eq_true rfl) rfl (by decide) (c16 xs d (apX (apX (apX m w1 (k)) w2 (k + 4)) w3 (k + 4 + 4)) w4 (k + 4 + 4 + 4) n3 (by omega)) (fun v4 m4 q4 => ?_)
    obtain ⟨rfl, rfl⟩ := q4; have n4 := apX_n (v := w4) n3
    refine y_st rfl rfl rfl rfl rfl (fun _ _ => rfl) ?_
    refine y_st rfl rfl rfl rfl rfl (fun _ _ => rfl) ?_
    show yP (xg xs) (d + 1) 15 36 [(0, .ref 0), (1, .int w1), (2, .int w2), (3, .int w3), (4, .int w4), (5, .int w5)] [.int w5, .ref 0] (apX (apX (apX (apX m w1 (k)) w2 (k + 4)) w3 (k + 4 + 4)) w4 (k + 4 + 4 + 4)) _
    refine y_call rfl rfl rfl rfl rfl (Nat.le_of_ble_eq_true rfl) (Nat.le_of_ble_eq_true rfl) rfl (by decide) (c16 xs d (apX (apX (apX (apX m w1 (k)) w2 (k + 4)) w3 (k + 4 + 4)) w4 (k + 4 + 4 + 4)) w5 (k + 4 + 4 + 4 + 4) n4 (by omega)) (fun v5 m5 q5 => ?_)
    obtain ⟨rfl, rfl⟩ := q5
    refine y_st rfl rfl rfl rfl rfl (fun _ _ => rfl) ?_
    refine y_gf rfl rfl rfl rfl rfl ?_
    show yP (xg xs) (d + 1) 15 43 [(0, .ref 0), (1, .int w1), (2, .int w2), (3, .int w3), (4, .int w4), (5, .int w5)] [.int ((apX (apX (apX (apX (apX m w1 (k)) w2 (k + 4)) w3 (k + 4 + 4)) w4 (k + 4 + 4 + 4)) w5 (k + 4 + 4 + 4 + 4)).1 0 9)] (apX (apX (apX (apX (apX m w1 (k)) w2 (k + 4)) w3 (k + 4 + 4)) w4 (k + 4 + 4 + 4)) w5 (k + 4 + 4 + 4 + 4)) _
    exact y_iret rfl rfl rfl (by first | (rw [if_pos hk2]; exact ⟨rfl, rfl⟩) | (rw [if_neg (by omega)]; exact ⟨congrArg (fun z => some (Value.int z)) (apX_n n4), rfl⟩))
  · have hk2 : 8172 < k := Nat.not_le.mp (fun z => h7 (by rw [hn0]; exact (nI_leI hk31 (by decide)).mpr z))
    refine y_st rfl rfl rfl rfl rfl (fun _ _ => rfl) ?_
    show yP (xg xs) (d + 1) 15 11 [(0, .ref 0), (1, .int w1), (2, .int w2), (3, .int w3), (4, .int w4), (5, .int w5)] [.int ((-1) : Int32)] m _
    exact y_iret rfl rfl rfl (by first | (rw [if_pos hk2]; exact ⟨rfl, rfl⟩) | (rw [if_neg (by omega)]; exact ⟨congrArg (fun z => some (Value.int z)) (apX_n n4), rfl⟩))
set_option maxRecDepth 20000 in
/-- reference: feed -/
theorem c266 (xs : List Int32) (d : Nat) (m : yM) (w1 w2 w3 w4 w5 : Int32) (k : Nat) (hn0 : m.1 58 2 = nI k) (hk : k ≤ 8192) : yC (xg xs) (d + 1) 266 [.ref 58, .int w1, .int w2, .int w3, .int w4, .int w5] m (fun r m' => if 8172 < k then r = some (.int (-1)) ∧ m' = y_si m 58 0 0 else r = some (.int (nI (k + 20))) ∧ m' = fdY m k w1 w2 w3 w4 w5) := by
  have hk31 : k < 2 ^ 31 := by omega
  have e20 : m.1 58 2 + 20 = nI (k + 20) := by rw [hn0]; exact nI_add k 20
  refine y_st rfl rfl rfl rfl rfl (fun _ _ => rfl) ?_
  refine y_st rfl rfl rfl rfl rfl (fun _ _ => rfl) ?_
  refine y_pfi rfl rfl rfl rfl rfl (x_fit_i _) ?_
  show yP (xg xs) (d + 1) 266 5 [(0, .ref 58), (1, .int w1), (2, .int w2), (3, .int w3), (4, .int w4), (5, .int w5)] [] (y_si m 58 0 (0 : Int32)) _
  refine y_st rfl rfl rfl rfl rfl (fun _ _ => rfl) ?_
  refine y_gf rfl rfl rfl rfl rfl ?_
  refine y_st rfl rfl rfl rfl rfl (fun _ _ => rfl) ?_
  refine y_st rfl rfl rfl rfl rfl (fun _ _ => rfl) ?_
  refine y_st rfl rfl rfl rfl rfl (fun _ _ => rfl) ?_
  show yP (xg xs) (d + 1) 266 15 [(0, .ref 58), (1, .int w1), (2, .int w2), (3, .int w3), (4, .int w4), (5, .int w5)] [.int (8192 : Int32), .int ((m.1 58 2) + (20 : Int32))] (y_si m 58 0 (0 : Int32)) _
  refine y_ile (t := 20) rfl rfl rfl (fun h15 => ?_) (fun h15 => ?_)
  · have hn : (y_si m 58 0 0).1 58 2 = nI k := hn0
    have hk2 : k ≤ 8172 := by have z : k + 20 ≤ 8192 := (nI_leI (by omega) (by decide)).mp (by rw [← e20]; exact h15); omega
    refine y_st rfl rfl rfl rfl rfl (fun _ _ => rfl) ?_
    refine y_st rfl rfl rfl rfl rfl (fun _ _ => rfl) ?_
    show yP (xg xs) (d + 1) 266 22 [(0, .ref 58), (1, .int w1), (2, .int w2), (3, .int w3), (4, .int w4), (5, .int w5)] [.int w1, .ref 58] (y_si m 58 0 (0 : Int32)) _
    refine y_call rfl rfl rfl rfl rfl (Nat.le_of_ble_eq_true rfl) (Nat.le_of_ble_eq_true rfl) rfl (by decide) (c267 xs d (y_si m 58 0 (0 : Int32)) w1 (k) hn (by omega)) (fun v1 m1 q1 => ?_)
    obtain ⟨rfl, rfl⟩ := q1; have n1 := apY_n (v := w1) hn
    refine y_st rfl rfl rfl rfl rfl (fun _ _ => rfl) ?_
    refine y_st rfl rfl rfl rfl rfl (fun _ _ => rfl) ?_
    show yP (xg xs) (d + 1) 266 27 [(0, .ref 58), (1, .int w1), (2, .int w2), (3, .int w3), (4, .int w4), (5, .int w5)] [.int w2, .ref 58] (apY (y_si m 58 0 (0 : Int32)) w1 (k)) _
    refine y_call rfl rfl rfl rfl rfl (Nat.le_of_ble_eq_true rfl) (Nat.le_of_ble_eq_true rfl) rfl (by decide) (c267 xs d (apY (y_si m 58 0 (0 : Int32)) w1 (k)) w2 (k + 4) n1 (by omega)) (fun v2 m2 q2 => ?_)
    obtain ⟨rfl, rfl⟩ := q2; have n2 := apY_n (v := w2) n1
    refine y_st rfl rfl rfl rfl rfl (fun _ _ => rfl) ?_
    refine y_st rfl rfl rfl rfl rfl (fun _ _ => rfl) ?_
    show yP (xg xs) (d + 1) 266 32 [(0, .ref 58), (1, .int w1), (2, .int w2), (3, .int w3), (4, .int w4), (5, .int w5)] [.int w3, .ref 58] (apY (apY (y_si m 58 0 (0 : Int32)) w1 (k)) w2 (k + 4)) _
    refine y_call rfl rfl rfl rfl rfl (Nat.le_of_ble_eq_true rfl) (Nat.le_of_ble_eq_true rfl) rfl (by decide) (c267 xs d (apY (apY (y_si m 58 0 (0 : Int32)) w1 (k)) w2 (k + 4)) w3 (k + 4 + 4) n2 (by omega)) (fun v3 m3 q3 => ?_)
    obtain ⟨rfl, rfl⟩ := q3; have n3 := apY_n (v := w3) n2
    refine y_st rfl rfl rfl rfl rfl (fun _ _ => rfl) ?_
    refine y_st rfl rfl rfl rfl rfl (fun _ _ => rfl) ?_
    show yP (xg xs) (d + 1) 266 38 [(0, .ref 58), (1, .int w1), (2, .int w2), (3, .int w3), (4, .int w4), (5, .int w5)] [.int w4, .ref 58] (apY (apY (apY (y_si m 58 0 (0 : Int32)) w1 (k)) w2 (k + 4)) w3 (k + 4 + 4)) _
    refine y_call rfl rfl rfl rfl rfl (Nat.le_of_ble_eq_true rfl) (Nat.le_of_ble_eq_true rfl) rfl (by decide) (c267 xs d (apY (apY (apY (y_si m 58 0 (0 : Int32)) w1 (k)) w2 (k + 4)) w3 (k + 4 + 4)) w4 (k + 4 + 4 + 4) n3 (by omega)) (fun v4 m4 q4 => ?_)
    obtain ⟨rfl, rfl⟩ := q4; have n4 := apY_n (v := w4) n3
    refine y_st rfl rfl rfl rfl rfl (fun _ _ => rfl) ?_
    refine y_st rfl rfl rfl rfl rfl (fun _ _ => rfl) ?_
    show yP (xg xs) (d + 1) 266 44 [(0, .ref 58), (1, .int w1), (2, .int w2), (3, .int w3), (4, .int w4), (5, .int w5)] [.int w5, .ref 58] (apY (apY (apY (apY (y_si m 58 0 (0 : Int32)) w1 (k)) w2 (k + 4)) w3 (k + 4 + 4)) w4 (k + 4 + 4 + 4)) _
    refine y_call rfl rfl rfl rfl rfl (Nat.le_of_ble_eq_true rfl) (Nat.le_of_ble_eq_true rfl) rfl (by decide) (c267 xs d (apY (apY (apY (apY (y_si m 58 0 (0 : Int32)) w1 (k)) w2 (k + 4)) w3 (k + 4 + 4)) w4 (k + 4 + 4 + 4)) w5 (k + 4 + 4 + 4 + 4) n4 (by omega)) (fun v5 m5 q5 => ?_)
    obtain ⟨rfl, rfl⟩ := q5
    refine y_st rfl rfl rfl rfl rfl (fun _ _ => rfl) ?_
    refine y_gf rfl rfl rfl rfl rfl ?_
    show yP (xg xs) (d + 1) 266 51 [(0, .ref 58), (1, .int w1), (2, .int w2), (3, .int w3), (4, .int w4), (5, .int w5)] [.int ((apY (apY (apY (apY (apY (y_si m 58 0 (0 : Int32)) w1 (k)) w2 (k + 4)) w3 (k + 4 + 4)) w4 (k + 4 + 4 + 4)) w5 (k + 4 + 4 + 4 + 4)).1 58 2)] (apY (apY (apY (apY (apY (y_si m 58 0 (0 : Int32)) w1 (k)) w2 (k + 4)) w3 (k + 4 + 4)) w4 (k + 4 + 4 + 4)) w5 (k + 4 + 4 + 4 + 4)) _
    exact y_iret rfl rfl rfl (by first | (rw [if_pos hk2]; exact ⟨rfl, rfl⟩) | (rw [if_neg (by omega)]; exact ⟨congrArg (fun z => some (Value.int z)) (apY_n n4), rfl⟩))
  · have hk2 : 8172 < k := by have z : ¬ k + 20 ≤ 8192 := fun z => h15 (by rw [e20]; exact (nI_leI (by omega) (by decide)).mpr z); omega
    refine y_st rfl rfl rfl rfl rfl (fun _ _ => rfl) ?_
    show yP (xg xs) (d + 1) 266 19 [(0, .ref 58), (1, .int w1), (2, .int w2), (3, .int w3), (4, .int w4), (5, .int w5)] [.int ((-1) : Int32)] (y_si m 58 0 (0 : Int32)) _
    exact y_iret rfl rfl rfl (by first | (rw [if_pos hk2]; exact ⟨rfl, rfl⟩) | (rw [if_neg (by omega)]; exact ⟨congrArg (fun z => some (Value.int z)) (apY_n n4), rfl⟩))
