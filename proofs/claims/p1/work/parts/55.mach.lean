/-! THE MACHINE: small methods, laid by wip/gen/small9.py -/
theorem x_in_01 {c : Int32} {n : Nat} (h0 : ¬ c < 0) (h1 : c < nI n) (hn : n < 2 ^ 31) : x_in c n = true := x_in_lt (Int32.not_lt.mp h0) h1 (by rw [nI_toInt hn]; exact Int.le_refl _)
set_option maxRecDepth 20000 in
/-- Machine.load -/
theorem c247 (xs : List Int32) (d : Nat) (m : yM) (c : Int32) : yC (xg xs) d 247 [.ref 52, .int c] m (fun r m' => r = some (.int (if 0 ≤ c ∧ c < 8192 then m.1 53 c.toNatClampNeg else 0)) ∧ m' = m) := by
  refine y_st rfl rfl rfl rfl rfl (fun _ _ => rfl) ?_
  show yP (xg xs) d 247 1 [(0, .ref 52), (1, .int c)] [.int c] m _
  refine y_zlt (t := 20) rfl rfl rfl (fun h1 => ?_) (fun h1 => ?_)
  · refine y_st rfl rfl rfl rfl rfl (fun _ _ => rfl) ?_
    show yP (xg xs) d 247 21 [(0, .ref 52), (1, .int c)] [.int (0 : Int32)] m _
    exact y_iret rfl rfl rfl (by refine ⟨congrArg (fun z => some (Value.int z)) ?_, rfl⟩; grind)
  · refine y_st rfl rfl rfl rfl rfl (fun _ _ => rfl) ?_
    refine y_st rfl rfl rfl rfl rfl (fun _ _ => rfl) ?_
    show yP (xg xs) d 247 8 [(0, .ref 52), (1, .int c)] [.int (8192 : Int32), .int c] m _
    refine y_ige (t := 20) rfl rfl rfl (fun h8 => ?_) (fun h8 => ?_)
    · refine y_st rfl rfl rfl rfl rfl (fun _ _ => rfl) ?_
      show yP (xg xs) d 247 21 [(0, .ref 52), (1, .int c)] [.int (0 : Int32)] m _
      exact y_iret rfl rfl rfl (by refine ⟨congrArg (fun z => some (Value.int z)) ?_, rfl⟩; grind)
    · refine y_st rfl rfl rfl rfl rfl (fun _ _ => rfl) ?_
      refine y_gf rfl rfl rfl rfl rfl ?_
      refine y_st rfl rfl rfl rfl rfl (fun _ _ => rfl) ?_
      show yP (xg xs) d 247 16 [(0, .ref 52), (1, .int c)] [.int c, .ref 53] m _
      refine y_iald rfl rfl rfl (x_in_01 (n := 8192) h1 (Int32.not_le.mp h8) (by decide)) ?_
      refine y_st rfl rfl rfl rfl rfl (fun _ _ => rfl) ?_
      show yP (xg xs) d 247 21 [(0, .ref 52), (1, .int c)] [.int (m.1 53 c.toNatClampNeg)] m _
      exact y_iret rfl rfl rfl (by refine ⟨congrArg (fun z => some (Value.int z)) ?_, rfl⟩; grind)
set_option maxRecDepth 20000 in
/-- Machine.store -/
theorem c234 (xs : List Int32) (d : Nat) (m : yM) (c v : Int32) : yC (xg xs) d 234 [.ref 52, .int c, .int v] m (fun r m' => r = none ∧ m' = (if 0 ≤ c ∧ c < 8192 then y_si m 53 c.toNatClampNeg v else m)) := by
  refine y_st rfl rfl rfl rfl rfl (fun _ _ => rfl) ?_
  show yP (xg xs) d 234 1 [(0, .ref 52), (1, .int c), (2, .int v)] [.int c] m _
  refine y_zlt (t := 18) rfl rfl rfl (fun h1 => ?_) (fun h1 => ?_)
  · show yP (xg xs) d 234 18 [(0, .ref 52), (1, .int c), (2, .int v)] [] m _
    exact y_ret rfl rfl rfl rfl (by refine ⟨rfl, ?_⟩; grind)
  · refine y_st rfl rfl rfl rfl rfl (fun _ _ => rfl) ?_
    refine y_st rfl rfl rfl rfl rfl (fun _ _ => rfl) ?_
    show yP (xg xs) d 234 8 [(0, .ref 52), (1, .int c), (2, .int v)] [.int (8192 : Int32), .int c] m _
    refine y_ige (t := 18) rfl rfl rfl (fun h8 => ?_) (fun h8 => ?_)
    · show yP (xg xs) d 234 18 [(0, .ref 52), (1, .int c), (2, .int v)] [] m _
      exact y_ret rfl rfl rfl rfl (by refine ⟨rfl, ?_⟩; grind)
    · refine y_st rfl rfl rfl rfl rfl (fun _ _ => rfl) ?_
      refine y_gf rfl rfl rfl rfl rfl ?_
      refine y_st rfl rfl rfl rfl rfl (fun _ _ => rfl) ?_
      refine y_st rfl rfl rfl rfl rfl (fun _ _ => rfl) ?_
      show yP (xg xs) d 234 17 [(0, .ref 52), (1, .int c), (2, .int v)] [.int v, .int c, .ref 53] m _
      refine y_iast rfl rfl rfl (x_in_01 (n := 8192) h1 (Int32.not_le.mp h8) (by decide)) ?_
      show yP (xg xs) d 234 18 [(0, .ref 52), (1, .int c), (2, .int v)] [] (y_si m 53 c.toNatClampNeg v) _
      exact y_ret rfl rfl rfl rfl (by refine ⟨rfl, ?_⟩; grind)
set_option maxRecDepth 20000 in
/-- Machine.push -/
theorem c246 (xs : List Int32) (d : Nat) (m : yM) (v : Int32) (k : Nat) (hk : m.1 52 9 = nI k) (h1024 : k < 1024) : yC (xg xs) d 246 [.ref 52, .int v] m (fun r m' => r = none ∧ m' = y_si (y_si m 54 k v) 52 9 (nI (k + 1))) := by
  have e0 : (m.1 52 9).toNatClampNeg = k := by rw [hk]; exact nI_clamp (by omega)
  have e1 : m.1 52 9 + 1 = nI (k + 1) := by rw [hk]; exact nI_1 k
  refine y_st rfl rfl rfl rfl rfl (fun _ _ => rfl) ?_
  refine y_gf rfl rfl rfl rfl rfl ?_
  refine y_st rfl rfl rfl rfl rfl (fun _ _ => rfl) ?_
  refine y_gf rfl rfl rfl rfl rfl ?_
  refine y_st rfl rfl rfl rfl rfl (fun _ _ => rfl) ?_
  show yP (xg xs) d 246 9 [(0, .ref 52), (1, .int v)] [.int (1024 : Int32), .int (m.1 52 9)] m _
  refine y_ige (t := 32) rfl rfl rfl (fun h9 => ?_) (fun h9 => ?_)
  · exact absurd h9 (by rw [hk]; exact nI_ge (b := 1024) h1024 (by decide))
  · refine y_st rfl rfl rfl rfl rfl (fun _ _ => rfl) ?_
    refine y_gf rfl rfl rfl rfl rfl ?_
    refine y_st rfl rfl rfl rfl rfl (fun _ _ => rfl) ?_
    refine y_gf rfl rfl rfl rfl rfl ?_
    refine y_st rfl rfl rfl rfl rfl (fun _ _ => rfl) ?_
    show yP (xg xs) d 246 21 [(0, .ref 52), (1, .int v)] [.int v, .int (m.1 52 9), .ref 54] m _
    refine y_iast rfl rfl rfl (by rw [hk]; exact x_in_nI (by omega) (by decide)) ?_
    refine y_st rfl rfl rfl rfl rfl (fun _ _ => rfl) ?_
    refine y_st rfl rfl rfl rfl rfl (fun _ _ => rfl) ?_
    refine y_gf rfl rfl rfl rfl rfl ?_
    refine y_st rfl rfl rfl rfl rfl (fun _ _ => rfl) ?_
    refine y_st rfl rfl rfl rfl rfl (fun _ _ => rfl) ?_
    refine y_pfi rfl rfl rfl rfl rfl (x_fit_i _) ?_
    show yP (xg xs) d 246 32 [(0, .ref 52), (1, .int v)] [] (y_si (y_si m 54 ((m.1 52 9).toNatClampNeg) v) 52 9 ((m.1 52 9) + (1 : Int32))) _
    show yP (xg xs) d 246 32 [(0, .ref 52), (1, .int v)] [] (y_si (y_si m 54 ((m.1 52 9).toNatClampNeg) v) 52 9 ((m.1 52 9) + (1 : Int32))) _
    exact y_ret rfl rfl rfl rfl (by refine ⟨rfl, ?_⟩; rw [e0, e1])
set_option maxRecDepth 20000 in
/-- Machine.pop -/
theorem c248 (xs : List Int32) (d : Nat) (m : yM) (k : Nat) (hk : m.1 52 9 = nI (k + 1)) (h1024 : k < 1024) : yC (xg xs) d 248 [.ref 52] m (fun r m' => r = some (.int (m.1 54 k)) ∧ m' = y_si m 52 9 (nI k)) := by
  have e1 : m.1 52 9 - 1 = nI k := by rw [hk]; exact nI_pred k
  have e0 : (m.1 52 9 - 1).toNatClampNeg = k := by rw [e1]; exact nI_clamp (by omega)
  refine y_st rfl rfl rfl rfl rfl (fun _ _ => rfl) ?_
  refine y_gf rfl rfl rfl rfl rfl ?_
  show yP (xg xs) d 248 4 [(0, .ref 52)] [.int (m.1 52 9)] m _
  refine y_zle (t := 17) rfl rfl rfl (fun h4 => ?_) (fun h4 => ?_)
  · exact absurd h4 (by rw [hk]; exact nI_nle (by omega) (by omega))
  · refine y_st rfl rfl rfl rfl rfl (fun _ _ => rfl) ?_
    refine y_st rfl rfl rfl rfl rfl (fun _ _ => rfl) ?_
    refine y_gf rfl rfl rfl rfl rfl ?_
    refine y_st rfl rfl rfl rfl rfl (fun _ _ => rfl) ?_
    refine y_st rfl rfl rfl rfl rfl (fun _ _ => rfl) ?_
    refine y_pfi rfl rfl rfl rfl rfl (x_fit_i _) ?_
    show yP (xg xs) d 248 17 [(0, .ref 52)] [] (y_si m 52 9 ((m.1 52 9) - (1 : Int32))) _
    refine y_st rfl rfl rfl rfl rfl (fun _ _ => rfl) ?_
    refine y_gf rfl rfl rfl rfl rfl ?_
    refine y_st rfl rfl rfl rfl rfl (fun _ _ => rfl) ?_
    refine y_gf rfl rfl rfl rfl rfl ?_
    show yP (xg xs) d 248 25 [(0, .ref 52)] [.int ((m.1 52 9) - (1 : Int32)), .ref 54] (y_si m 52 9 ((m.1 52 9) - (1 : Int32))) _
    refine y_iald rfl rfl rfl (by rw [e1]; exact x_in_nI (by omega) (by decide)) ?_
    show yP (xg xs) d 248 26 [(0, .ref 52)] [.int (m.1 54 (((m.1 52 9) - (1 : Int32)).toNatClampNeg))] (y_si m 52 9 ((m.1 52 9) - (1 : Int32))) _
    exact y_iret rfl rfl rfl (by refine ⟨by rw [e0], by rw [e1]⟩)
set_option maxRecDepth 20000 in
/-- reference: push -/
theorem c396 (xs : List Int32) (d : Nat) (m : yM) (v : Int32) (k : Nat) (hk : m.1 58 67 = nI k) (h1200 : k < 1200) : yC (xg xs) d 396 [.ref 58, .int v] m (fun r m' => r = none ∧ m' = y_si (y_si m 99 k v) 58 67 (nI (k + 1))) := by
  have e0 : (m.1 58 67).toNatClampNeg = k := by rw [hk]; exact nI_clamp (by omega)
  have e1 : m.1 58 67 + 1 = nI (k + 1) := by rw [hk]; exact nI_1 k
  refine y_st rfl rfl rfl rfl rfl (fun _ _ => rfl) ?_
  refine y_gf rfl rfl rfl rfl rfl ?_
  refine y_st rfl rfl rfl rfl rfl (fun _ _ => rfl) ?_
  refine y_gf rfl rfl rfl rfl rfl ?_
  refine y_st rfl rfl rfl rfl rfl (fun _ _ => rfl) ?_
  show yP (xg xs) d 396 9 [(0, .ref 58), (1, .int v)] [.int v, .int (m.1 58 67), .ref 99] m _
  refine y_iast rfl rfl rfl (by rw [hk]; exact x_in_nI (by omega) (by decide)) ?_
  refine y_st rfl rfl rfl rfl rfl (fun _ _ => rfl) ?_
  refine y_st rfl rfl rfl rfl rfl (fun _ _ => rfl) ?_
  refine y_gf rfl rfl rfl rfl rfl ?_
  refine y_st rfl rfl rfl rfl rfl (fun _ _ => rfl) ?_
  refine y_st rfl rfl rfl rfl rfl (fun _ _ => rfl) ?_
  refine y_pfi rfl rfl rfl rfl rfl (x_fit_i _) ?_
  show yP (xg xs) d 396 20 [(0, .ref 58), (1, .int v)] [] (y_si (y_si m 99 ((m.1 58 67).toNatClampNeg) v) 58 67 ((m.1 58 67) + (1 : Int32))) _
  show yP (xg xs) d 396 20 [(0, .ref 58), (1, .int v)] [] (y_si (y_si m 99 ((m.1 58 67).toNatClampNeg) v) 58 67 ((m.1 58 67) + (1 : Int32))) _
  exact y_ret rfl rfl rfl rfl (by refine ⟨rfl, ?_⟩; rw [e0, e1])
set_option maxRecDepth 20000 in
/-- reference: pop -/
theorem c397 (xs : List Int32) (d : Nat) (m : yM) (k : Nat) (hk : m.1 58 67 = nI (k + 1)) (h1200 : k < 1200) : yC (xg xs) d 397 [.ref 58] m (fun r m' => r = some (.int (m.1 99 k)) ∧ m' = y_si m 58 67 (nI k)) := by
  have e1 : m.1 58 67 - 1 = nI k := by rw [hk]; exact nI_pred k
  have e0 : (m.1 58 67 - 1).toNatClampNeg = k := by rw [e1]; exact nI_clamp (by omega)
  refine y_st rfl rfl rfl rfl rfl (fun _ _ => rfl) ?_
  refine y_st rfl rfl rfl rfl rfl (fun _ _ => rfl) ?_
  refine y_gf rfl rfl rfl rfl rfl ?_
  refine y_st rfl rfl rfl rfl rfl (fun _ _ => rfl) ?_
  refine y_st rfl rfl rfl rfl rfl (fun _ _ => rfl) ?_
  refine y_pfi rfl rfl rfl rfl rfl (x_fit_i _) ?_
  show yP (xg xs) d 397 10 [(0, .ref 58)] [] (y_si m 58 67 ((m.1 58 67) - (1 : Int32))) _
  refine y_st rfl rfl rfl rfl rfl (fun _ _ => rfl) ?_
  refine y_gf rfl rfl rfl rfl rfl ?_
  refine y_st rfl rfl rfl rfl rfl (fun _ _ => rfl) ?_
  refine y_gf rfl rfl rfl rfl rfl ?_
  show yP (xg xs) d 397 18 [(0, .ref 58)] [.int ((m.1 58 67) - (1 : Int32)), .ref 99] (y_si m 58 67 ((m.1 58 67) - (1 : Int32))) _
  refine y_iald rfl rfl rfl (by rw [e1]; exact x_in_nI (by omega) (by decide)) ?_
  show yP (xg xs) d 397 19 [(0, .ref 58)] [.int (m.1 99 (((m.1 58 67) - (1 : Int32)).toNatClampNeg))] (y_si m 58 67 ((m.1 58 67) - (1 : Int32))) _
  exact y_iret rfl rfl rfl (by refine ⟨by rw [e0], by rw [e1]⟩)
