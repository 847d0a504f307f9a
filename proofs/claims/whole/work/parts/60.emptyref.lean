/-! THE REFERENCE: first methods; make on the empty text; laid by wip/gen/small14.py -/
/-- the byte that the reference sees at i, or 0 -/
def lk_ (m : yM) (i : Int32) : Int32 := if i < m.1 58 2 then m.1 59 i.toNatClampNeg &&& 255 else 0
def ndAdd (m : yM) (k : Nat) (a b c : Int32) : yM := y_si (y_si (y_si (y_si (y_si (y_si (y_si (y_si (y_si m 62 k a) 63 k b) 64 k c) 65 k (-1)) 66 k (-1)) 67 k (-1)) 68 k (-1)) 69 k 0) 58 21 (nI (k + 1))
def tkn (m : yM) (a b c : Int32) : yM := y_si (y_si (y_si m 58 6 a) 58 7 b) 58 5 c
set_option maxRecDepth 20000 in
/-- reference: look -/
theorem c274 (xs : List Int32) (d : Nat) (m : yM) (i : Int32) (h0 : 0 ≤ i) (hb : (m.1 58 2).toInt ≤ 8192) : yC (xg xs) d 274 [.ref 58, .int i] m (fun r m' => r = some (.int (lk_ m i)) ∧ m' = m) := by
  refine y_st rfl rfl rfl rfl rfl (fun _ _ => rfl) ?_
  refine y_st rfl rfl rfl rfl rfl (fun _ _ => rfl) ?_
  refine y_gf rfl rfl rfl rfl rfl ?_
  show yP (xg xs) d 274 5 [(0, .ref 58), (1, .int i)] [.int (m.1 58 2), .int i] m _
  refine y_ige (t := 21) rfl rfl rfl (fun h5 => ?_) (fun h5 => ?_)
  · refine y_st rfl rfl rfl rfl rfl (fun _ _ => rfl) ?_
    show yP (xg xs) d 274 22 [(0, .ref 58), (1, .int i)] [.int (0 : Int32)] m _
    exact y_iret rfl rfl rfl (by refine ⟨congrArg (fun z => some (Value.int z)) ?_, rfl⟩; unfold lk_; grind)
  · refine y_st rfl rfl rfl rfl rfl (fun _ _ => rfl) ?_
    refine y_gf rfl rfl rfl rfl rfl ?_
    refine y_st rfl rfl rfl rfl rfl (fun _ _ => rfl) ?_
    show yP (xg xs) d 274 13 [(0, .ref 58), (1, .int i)] [.int i, .ref 59] m _
    refine y_bald rfl rfl rfl (by decide) (x_in_lt h0 (Int32.not_le.mp h5) hb) ?_
    refine y_st rfl rfl rfl rfl rfl (fun _ _ => rfl) ?_
    refine y_st rfl rfl rfl rfl rfl (fun _ _ => rfl) ?_
    refine y_st rfl rfl rfl rfl rfl (fun _ _ => rfl) ?_
    show yP (xg xs) d 274 22 [(0, .ref 58), (1, .int i)] [.int ((m.1 59 i.toNatClampNeg) &&& (255 : Int32))] m _
    exact y_iret rfl rfl rfl (by refine ⟨congrArg (fun z => some (Value.int z)) ?_, rfl⟩; unfold lk_; grind)
set_option maxRecDepth 20000 in
/-- reference: token -/
theorem c277 (xs : List Int32) (d : Nat) (m : yM) (a b c : Int32) : yC (xg xs) d 277 [.ref 58, .int a, .int b, .int c] m (fun r m' => r = none ∧ m' = tkn m a b c) := by
  refine y_st rfl rfl rfl rfl rfl (fun _ _ => rfl) ?_
  refine y_st rfl rfl rfl rfl rfl (fun _ _ => rfl) ?_
  refine y_pfi rfl rfl rfl rfl rfl (x_fit_i _) ?_
  show yP (xg xs) d 277 5 [(0, .ref 58), (1, .int a), (2, .int b), (3, .int c)] [] (y_si m 58 6 a) _
  refine y_st rfl rfl rfl rfl rfl (fun _ _ => rfl) ?_
  refine y_st rfl rfl rfl rfl rfl (fun _ _ => rfl) ?_
  refine y_pfi rfl rfl rfl rfl rfl (x_fit_i _) ?_
  show yP (xg xs) d 277 10 [(0, .ref 58), (1, .int a), (2, .int b), (3, .int c)] [] (y_si (y_si m 58 6 a) 58 7 b) _
  refine y_st rfl rfl rfl rfl rfl (fun _ _ => rfl) ?_
  refine y_st rfl rfl rfl rfl rfl (fun _ _ => rfl) ?_
  refine y_pfi rfl rfl rfl rfl rfl (x_fit_i _) ?_
  show yP (xg xs) d 277 15 [(0, .ref 58), (1, .int a), (2, .int b), (3, .int c)] [] (y_si (y_si (y_si m 58 6 a) 58 7 b) 58 5 c) _
  show yP (xg xs) d 277 15 [(0, .ref 58), (1, .int a), (2, .int b), (3, .int c)] [] (y_si (y_si (y_si m 58 6 a) 58 7 b) 58 5 c) _
  exact y_ret rfl rfl rfl rfl (⟨rfl, rfl⟩)
set_option maxRecDepth 20000 in
/-- reference: fail -/
theorem c276 (xs : List Int32) (d : Nat) (m : yM) (f p : Int32) : yC (xg xs) d 276 [.ref 58, .int f, .int p] m (fun r m' => r = none ∧ m' = (if m.1 58 3 = 0 then y_si (y_si m 58 3 f) 58 4 p else m)) := by
  refine y_st rfl rfl rfl rfl rfl (fun _ _ => rfl) ?_
  refine y_gf rfl rfl rfl rfl rfl ?_
  show yP (xg xs) d 276 4 [(0, .ref 58), (1, .int f), (2, .int p)] [.int (m.1 58 3)] m _
  refine y_zne (t := 17) rfl rfl rfl (fun h4 => ?_) (fun h4 => ?_)
  · show yP (xg xs) d 276 17 [(0, .ref 58), (1, .int f), (2, .int p)] [] m _
    exact y_ret rfl rfl rfl rfl (by refine ⟨rfl, ?_⟩; grind)
  · refine y_st rfl rfl rfl rfl rfl (fun _ _ => rfl) ?_
    refine y_st rfl rfl rfl rfl rfl (fun _ _ => rfl) ?_
    refine y_pfi rfl rfl rfl rfl rfl (x_fit_i _) ?_
    show yP (xg xs) d 276 12 [(0, .ref 58), (1, .int f), (2, .int p)] [] (y_si m 58 3 f) _
    refine y_st rfl rfl rfl rfl rfl (fun _ _ => rfl) ?_
    refine y_st rfl rfl rfl rfl rfl (fun _ _ => rfl) ?_
    refine y_pfi rfl rfl rfl rfl rfl (x_fit_i _) ?_
    show yP (xg xs) d 276 17 [(0, .ref 58), (1, .int f), (2, .int p)] [] (y_si (y_si m 58 3 f) 58 4 p) _
    show yP (xg xs) d 276 17 [(0, .ref 58), (1, .int f), (2, .int p)] [] (y_si (y_si m 58 3 f) 58 4 p) _
    exact y_ret rfl rfl rfl rfl (by refine ⟨rfl, ?_⟩; grind)
set_option maxRecDepth 20000 in
/-- reference: node -/
theorem c271 (xs : List Int32) (d : Nat) (m : yM) (a b c : Int32) (k : Nat) (hk : m.1 58 21 = nI k) (h : k < 19999) : yC (xg xs) d 271 [.ref 58, .int a, .int b, .int c] m (fun r m' => r = some (.int (nI k)) ∧ m' = ndAdd m k a b c) := by
  have eK : (nI k).toNatClampNeg = k := nI_clamp (by omega)
  refine y_st rfl rfl rfl rfl rfl (fun _ _ => rfl) ?_
  refine y_gf rfl rfl rfl rfl rfl ?_
  refine y_st rfl rfl rfl rfl rfl (fun _ _ => rfl) ?_
  refine y_st rfl rfl rfl rfl rfl (fun _ _ => rfl) ?_
  refine y_gf rfl rfl rfl rfl rfl ?_
  refine y_st rfl rfl rfl rfl rfl (fun _ _ => rfl) ?_
  refine y_st rfl rfl rfl rfl rfl (fun _ _ => rfl) ?_
  show yP (xg xs) d 271 13 [(4, .int (m.1 58 21)), (0, .ref 58), (1, .int a), (2, .int b), (3, .int c)] [.int a, .int (m.1 58 21), .ref 62] m _
  refine y_iast rfl rfl rfl (by rw [hk]; exact x_in_nI (by omega) (by decide)) ?_
  refine y_st rfl rfl rfl rfl rfl (fun _ _ => rfl) ?_
  refine y_gf rfl rfl rfl rfl rfl ?_
  refine y_st rfl rfl rfl rfl rfl (fun _ _ => rfl) ?_
  refine y_st rfl rfl rfl rfl rfl (fun _ _ => rfl) ?_
  show yP (xg xs) d 271 21 [(4, .int (m.1 58 21)), (0, .ref 58), (1, .int a), (2, .int b), (3, .int c)] [.int b, .int (m.1 58 21), .ref 63] (y_si m 62 ((m.1 58 21).toNatClampNeg) a) _
  refine y_iast rfl rfl rfl (by rw [hk]; exact x_in_nI (by omega) (by decide)) ?_
  refine y_st rfl rfl rfl rfl rfl (fun _ _ => rfl) ?_
  refine y_gf rfl rfl rfl rfl rfl ?_
  refine y_st rfl rfl rfl rfl rfl (fun _ _ => rfl) ?_
  refine y_st rfl rfl rfl rfl rfl (fun _ _ => rfl) ?_
  show yP (xg xs) d 271 29 [(4, .int (m.1 58 21)), (0, .ref 58), (1, .int a), (2, .int b), (3, .int c)] [.int c, .int (m.1 58 21), .ref 64] (y_si (y_si m 62 ((m.1 58 21).toNatClampNeg) a) 63 ((m.1 58 21).toNatClampNeg) b) _
  refine y_iast rfl rfl rfl (by rw [hk]; exact x_in_nI (by omega) (by decide)) ?_
  refine y_st rfl rfl rfl rfl rfl (fun _ _ => rfl) ?_
  refine y_gf rfl rfl rfl rfl rfl ?_
  refine y_st rfl rfl rfl rfl rfl (fun _ _ => rfl) ?_
  refine y_st rfl rfl rfl rfl rfl (fun _ _ => rfl) ?_
  show yP (xg xs) d 271 37 [(4, .int (m.1 58 21)), (0, .ref 58), (1, .int a), (2, .int b), (3, .int c)] [.int ((-1) : Int32), .int (m.1 58 21), .ref 65] (y_si (y_si (y_si m 62 ((m.1 58 21).toNatClampNeg) a) 63 ((m.1 58 21).toNatClampNeg) b) 64 ((m.1 58 21).toNatClampNeg) c) _
  refine y_iast rfl rfl rfl (by rw [hk]; exact x_in_nI (by omega) (by decide)) ?_
  refine y_st rfl rfl rfl rfl rfl (fun _ _ => rfl) ?_
  refine y_gf rfl rfl rfl rfl rfl ?_
  refine y_st rfl rfl rfl rfl rfl (fun _ _ => rfl) ?_
  refine y_st rfl rfl rfl rfl rfl (fun _ _ => rfl) ?_
  show yP (xg xs) d 271 45 [(4, .int (m.1 58 21)), (0, .ref 58), (1, .int a), (2, .int b), (3, .int c)] [.int ((-1) : Int32), .int (m.1 58 21), .ref 66] (y_si (y_si (y_si (y_si m 62 ((m.1 58 21).toNatClampNeg) a) 63 ((m.1 58 21).toNatClampNeg) b) 64 ((m.1 58 21).toNatClampNeg) c) 65 ((m.1 58 21).toNatClampNeg) ((-1) : Int32)) _
  refine y_iast rfl rfl rfl (by rw [hk]; exact x_in_nI (by omega) (by decide)) ?_
  refine y_st rfl rfl rfl rfl rfl (fun _ _ => rfl) ?_
  refine y_gf rfl rfl rfl rfl rfl ?_
  refine y_st rfl rfl rfl rfl rfl (fun _ _ => rfl) ?_
  refine y_st rfl rfl rfl rfl rfl (fun _ _ => rfl) ?_
  show yP (xg xs) d 271 53 [(4, .int (m.1 58 21)), (0, .ref 58), (1, .int a), (2, .int b), (3, .int c)] [.int ((-1) : Int32), .int (m.1 58 21), .ref 67] (y_si (y_si (y_si (y_si (y_si m 62 ((m.1 58 21).toNatClampNeg) a) 63 ((m.1 58 21).toNatClampNeg) b) 64 ((m.1 58 21).toNatClampNeg) c) 65 ((m.1 58 21).toNatClampNeg) ((-1) : Int32)) 66 ((m.1 58 21).toNatClampNeg) ((-1) : Int32)) _
  refine y_iast rfl rfl rfl (by rw [hk]; exact x_in_nI (by omega) (by decide)) ?_
  refine y_st rfl rfl rfl rfl rfl (fun _ _ => rfl) ?_
  refine y_gf rfl rfl rfl rfl rfl ?_
  refine y_st rfl rfl rfl rfl rfl (fun _ _ => rfl) ?_
  refine y_st rfl rfl rfl rfl rfl (fun _ _ => rfl) ?_
  show yP (xg xs) d 271 61 [(4, .int (m.1 58 21)), (0, .ref 58), (1, .int a), (2, .int b), (3, .int c)] [.int ((-1) : Int32), .int (m.1 58 21), .ref 68] (y_si (y_si (y_si (y_si (y_si (y_si m 62 ((m.1 58 21).toNatClampNeg) a) 63 ((m.1 58 21).toNatClampNeg) b) 64 ((m.1 58 21).toNatClampNeg) c) 65 ((m.1 58 21).toNatClampNeg) ((-1) : Int32)) 66 ((m.1 58 21).toNatClampNeg) ((-1) : Int32)) 67 ((m.1 58 21).toNatClampNeg) ((-1) : Int32)) _
  refine y_iast rfl rfl rfl (by rw [hk]; exact x_in_nI (by omega) (by decide)) ?_
  refine y_st rfl rfl rfl rfl rfl (fun _ _ => rfl) ?_
  refine y_gf rfl rfl rfl rfl rfl ?_
  refine y_st rfl rfl rfl rfl rfl (fun _ _ => rfl) ?_
  refine y_st rfl rfl rfl rfl rfl (fun _ _ => rfl) ?_
  show yP (xg xs) d 271 69 [(4, .int (m.1 58 21)), (0, .ref 58), (1, .int a), (2, .int b), (3, .int c)] [.int (0 : Int32), .int (m.1 58 21), .ref 69] (y_si (y_si (y_si (y_si (y_si (y_si (y_si m 62 ((m.1 58 21).toNatClampNeg) a) 63 ((m.1 58 21).toNatClampNeg) b) 64 ((m.1 58 21).toNatClampNeg) c) 65 ((m.1 58 21).toNatClampNeg) ((-1) : Int32)) 66 ((m.1 58 21).toNatClampNeg) ((-1) : Int32)) 67 ((m.1 58 21).toNatClampNeg) ((-1) : Int32)) 68 ((m.1 58 21).toNatClampNeg) ((-1) : Int32)) _
  refine y_iast rfl rfl rfl (by rw [hk]; exact x_in_nI (by omega) (by decide)) ?_
  refine y_st rfl rfl rfl rfl rfl (fun _ _ => rfl) ?_
  refine y_st rfl rfl rfl rfl rfl (fun _ _ => rfl) ?_
  refine y_gf rfl rfl rfl rfl rfl ?_
  refine y_st rfl rfl rfl rfl rfl (fun _ _ => rfl) ?_
  show yP (xg xs) d 271 78 [(4, .int (m.1 58 21)), (0, .ref 58), (1, .int a), (2, .int b), (3, .int c)] [.int (19999 : Int32), .int (m.1 58 21), .ref 58] (y_si (y_si (y_si (y_si (y_si (y_si (y_si (y_si m 62 ((m.1 58 21).toNatClampNeg) a) 63 ((m.1 58 21).toNatClampNeg) b) 64 ((m.1 58 21).toNatClampNeg) c) 65 ((m.1 58 21).toNatClampNeg) ((-1) : Int32)) 66 ((m.1 58 21).toNatClampNeg) ((-1) : Int32)) 67 ((m.1 58 21).toNatClampNeg) ((-1) : Int32)) 68 ((m.1 58 21).toNatClampNeg) ((-1) : Int32)) 69 ((m.1 58 21).toNatClampNeg) (0 : Int32)) _
  refine y_ige (t := 90) rfl rfl rfl (fun h78 => ?_) (fun h78 => ?_)
  · exact absurd h78 (by rw [hk]; exact nI_ge (b := 19999) h (by decide))
  · refine y_st rfl rfl rfl rfl rfl (fun _ _ => rfl) ?_
    refine y_gf rfl rfl rfl rfl rfl ?_
    refine y_st rfl rfl rfl rfl rfl (fun _ _ => rfl) ?_
    refine y_st rfl rfl rfl rfl rfl (fun _ _ => rfl) ?_
    refine y_st rfl rfl rfl rfl rfl (fun _ _ => rfl) ?_
    refine y_pfi rfl rfl rfl rfl rfl (x_fit_i _) ?_
    show yP (xg xs) d 271 97 [(4, .int (m.1 58 21)), (0, .ref 58), (1, .int a), (2, .int b), (3, .int c)] [] (y_si (y_si (y_si (y_si (y_si (y_si (y_si (y_si (y_si m 62 ((m.1 58 21).toNatClampNeg) a) 63 ((m.1 58 21).toNatClampNeg) b) 64 ((m.1 58 21).toNatClampNeg) c) 65 ((m.1 58 21).toNatClampNeg) ((-1) : Int32)) 66 ((m.1 58 21).toNatClampNeg) ((-1) : Int32)) 67 ((m.1 58 21).toNatClampNeg) ((-1) : Int32)) 68 ((m.1 58 21).toNatClampNeg) ((-1) : Int32)) 69 ((m.1 58 21).toNatClampNeg) (0 : Int32)) 58 21 ((m.1 58 21) + (1 : Int32))) _
    refine y_st rfl rfl rfl rfl rfl (fun _ _ => rfl) ?_
    show yP (xg xs) d 271 99 [(4, .int (m.1 58 21)), (0, .ref 58), (1, .int a), (2, .int b), (3, .int c)] [.int (m.1 58 21)] (y_si (y_si (y_si (y_si (y_si (y_si (y_si (y_si (y_si m 62 ((m.1 58 21).toNatClampNeg) a) 63 ((m.1 58 21).toNatClampNeg) b) 64 ((m.1 58 21).toNatClampNeg) c) 65 ((m.1 58 21).toNatClampNeg) ((-1) : Int32)) 66 ((m.1 58 21).toNatClampNeg) ((-1) : Int32)) 67 ((m.1 58 21).toNatClampNeg) ((-1) : Int32)) 68 ((m.1 58 21).toNatClampNeg) ((-1) : Int32)) 69 ((m.1 58 21).toNatClampNeg) (0 : Int32)) 58 21 ((m.1 58 21) + (1 : Int32))) _
    exact y_iret rfl rfl rfl (by refine ⟨by rw [hk], ?_⟩; simp only [hk, nI_1, eK]; rfl)
set_option maxRecDepth 20000 in
/-- reference: skip at the end -/
theorem c273e (xs : List Int32) (d : Nat) (m : yM) (h0 : 0 ≤ m.1 58 5) (hb : (m.1 58 2).toInt ≤ 8192) (he : m.1 58 2 ≤ m.1 58 5) : yC (xg xs) (d + 1) 273 [.ref 58] m (fun r m' => r = some (.int 1) ∧ m' = m) := by
  refine y_st rfl rfl rfl rfl rfl (fun _ _ => rfl) ?_
  refine y_st rfl rfl rfl rfl rfl (fun _ _ => rfl) ?_
  refine y_st rfl rfl rfl rfl rfl (fun _ _ => rfl) ?_
  show yP (xg xs) (d + 1) 273 3 [(1, .int (1 : Int32)), (0, .ref 58)] [.int (1 : Int32)] m _
  refine y_zeq (t := 174) rfl rfl rfl (fun h3 => ?_) (fun h3 => ?_)
  · exact absurd h3 (by decide)
  · refine y_st rfl rfl rfl rfl rfl (fun _ _ => rfl) ?_
    refine y_st rfl rfl rfl rfl rfl (fun _ _ => rfl) ?_
    refine y_gf rfl rfl rfl rfl rfl ?_
    show yP (xg xs) (d + 1) 273 11 [(1, .int (1 : Int32)), (0, .ref 58)] [.int (m.1 58 5), .ref 58] m _
    refine y_call rfl rfl rfl rfl rfl (Nat.le_of_ble_eq_true rfl) (Nat.le_of_ble_eq_true rfl) rfl (by decide) (c274 xs d m (m.1 58 5) h0 hb) (fun v1 m1 q1 => ?_)
    obtain ⟨rfl, e1⟩ := q1; rw [e1]; clear e1
    refine y_st rfl rfl rfl rfl rfl (fun _ _ => rfl) ?_
    refine y_st rfl rfl rfl rfl rfl (fun _ _ => rfl) ?_
    refine y_gf rfl rfl rfl rfl rfl ?_
    refine y_st rfl rfl rfl rfl rfl (fun _ _ => rfl) ?_
    refine y_gf rfl rfl rfl rfl rfl ?_
    show yP (xg xs) (d + 1) 273 23 [(2, .int (lk_ m (m.1 58 5))), (1, .int (1 : Int32)), (0, .ref 58)] [.int (m.1 58 2), .int (m.1 58 5)] m _
    refine y_ige (t := 54) rfl rfl rfl (fun h23 => ?_) (fun h23 => ?_)
    · refine y_st rfl rfl rfl rfl rfl (fun _ _ => rfl) ?_
      refine y_st rfl rfl rfl rfl rfl (fun _ _ => rfl) ?_
      refine y_st rfl rfl rfl rfl rfl (fun _ _ => rfl) ?_
      show yP (xg xs) (d + 1) 273 57 [(1, .int (0 : Int32)), (2, .int (lk_ m (m.1 58 5))), (0, .ref 58)] [.int (0 : Int32)] m _
      refine y_zeq (t := 73) rfl rfl rfl (fun h57 => ?_) (fun h57 => ?_)
      · refine y_st rfl rfl rfl rfl rfl (fun _ _ => rfl) ?_
        refine y_gf rfl rfl rfl rfl rfl ?_
        refine y_st rfl rfl rfl rfl rfl (fun _ _ => rfl) ?_
        refine y_gf rfl rfl rfl rfl rfl ?_
        show yP (xg xs) (d + 1) 273 81 [(1, .int (0 : Int32)), (2, .int (lk_ m (m.1 58 5))), (0, .ref 58)] [.int (m.1 58 2), .int (m.1 58 5)] m _
        refine y_ige (t := 171) rfl rfl rfl (fun h81 => ?_) (fun h81 => ?_)
        · refine y_st rfl rfl rfl rfl rfl (fun _ _ => rfl) ?_
          refine y_st rfl rfl rfl rfl rfl (fun _ _ => rfl) ?_
          show yP (xg xs) (d + 1) 273 3 [(1, .int (0 : Int32)), (2, .int (lk_ m (m.1 58 5))), (0, .ref 58)] [.int (0 : Int32)] m _
          refine y_zeq (t := 174) rfl rfl rfl (fun h3 => ?_) (fun h3 => ?_)
          · refine y_st rfl rfl rfl rfl rfl (fun _ _ => rfl) ?_
            show yP (xg xs) (d + 1) 273 175 [(1, .int (0 : Int32)), (2, .int (lk_ m (m.1 58 5))), (0, .ref 58)] [.int (1 : Int32)] m _
            exact y_zret rfl rfl rfl (by decide) (⟨rfl, rfl⟩)
          · exact absurd h3 (by decide)
        · exact absurd he h81
      · exact absurd h57 (by decide)
    · exact absurd he h23
set_option maxRecDepth 20000 in
/-- reference: next at the end -/
theorem c272e (xs : List Int32) (d : Nat) (m : yM) (hf : m.1 58 3 = 0) (h0 : 0 ≤ m.1 58 5) (hb : (m.1 58 2).toInt ≤ 8192) (he : m.1 58 2 ≤ m.1 58 5) : yC (xg xs) (d + 2) 272 [.ref 58] m (fun r m' => r = none ∧ m' = tkn (y_si (y_si m 58 9 (m.1 58 8)) 58 8 (m.1 58 5)) 0 0 (m.1 58 2)) := by
  refine y_st rfl rfl rfl rfl rfl (fun _ _ => rfl) ?_
  refine y_gf rfl rfl rfl rfl rfl ?_
  show yP (xg xs) (d + 2) 272 4 [(0, .ref 58)] [.int (m.1 58 3)] m _
  refine y_zle (t := 14) rfl rfl rfl (fun h4 => ?_) (fun h4 => ?_)
  · refine y_st rfl rfl rfl rfl rfl (fun _ _ => rfl) ?_
    refine y_st rfl rfl rfl rfl rfl (fun _ _ => rfl) ?_
    refine y_gf rfl rfl rfl rfl rfl ?_
    refine y_pfi rfl rfl rfl rfl rfl (x_fit_i _) ?_
    show yP (xg xs) (d + 2) 272 22 [(0, .ref 58)] [] (y_si m 58 9 (m.1 58 8)) _
    refine y_st rfl rfl rfl rfl rfl (fun _ _ => rfl) ?_
    show yP (xg xs) (d + 2) 272 23 [(0, .ref 58)] [.ref 58] (y_si m 58 9 (m.1 58 8)) _
    refine y_call rfl rfl rfl rfl rfl (Nat.le_of_ble_eq_true rfl) (Nat.le_of_ble_eq_true rfl) rfl (by decide) (c273e xs d (y_si m 58 9 (m.1 58 8)) h0 hb he) (fun v1 m1 q1 => ?_)
    obtain ⟨rfl, e1⟩ := q1; rw [e1]; clear e1
    show yP (xg xs) (d + 2) 272 26 [(0, .ref 58)] [.int (1 : Int32)] (y_si m 58 9 (m.1 58 8)) _
    refine y_zne (t := 39) rfl rfl rfl (fun h26 => ?_) (fun h26 => ?_)
    · refine y_st rfl rfl rfl rfl rfl (fun _ _ => rfl) ?_
      refine y_st rfl rfl rfl rfl rfl (fun _ _ => rfl) ?_
      refine y_gf rfl rfl rfl rfl rfl ?_
      refine y_pfi rfl rfl rfl rfl rfl (x_fit_i _) ?_
      show yP (xg xs) (d + 2) 272 47 [(0, .ref 58)] [] (y_si (y_si m 58 9 (m.1 58 8)) 58 8 ((y_si m 58 9 (m.1 58 8)).1 58 5)) _
      refine y_st rfl rfl rfl rfl rfl (fun _ _ => rfl) ?_
      refine y_st rfl rfl rfl rfl rfl (fun _ _ => rfl) ?_
      refine y_gf rfl rfl rfl rfl rfl ?_
      show yP (xg xs) (d + 2) 272 52 [(0, .ref 58)] [.int ((y_si m 58 9 (m.1 58 8)).1 58 5), .ref 58] (y_si (y_si m 58 9 (m.1 58 8)) 58 8 ((y_si m 58 9 (m.1 58 8)).1 58 5)) _
      refine y_call rfl rfl rfl rfl rfl (Nat.le_of_ble_eq_true rfl) (Nat.le_of_ble_eq_true rfl) rfl (by decide) (yC.mono (by omega) (fun _ _ z => z) (c274 xs d (y_si (y_si m 58 9 (m.1 58 8)) 58 8 ((y_si m 58 9 (m.1 58 8)).1 58 5)) ((y_si m 58 9 (m.1 58 8)).1 58 5) h0 hb)) (fun v2 m2 q2 => ?_)
      obtain ⟨rfl, e2⟩ := q2; rw [e2]; clear e2
      refine y_st rfl rfl rfl rfl rfl (fun _ _ => rfl) ?_
      refine y_st rfl rfl rfl rfl rfl (fun _ _ => rfl) ?_
      refine y_gf rfl rfl rfl rfl rfl ?_
      refine y_st rfl rfl rfl rfl rfl (fun _ _ => rfl) ?_
      refine y_gf rfl rfl rfl rfl rfl ?_
      show yP (xg xs) (d + 2) 272 64 [(1, .int (lk_ (y_si (y_si m 58 9 (m.1 58 8)) 58 8 ((y_si m 58 9 (m.1 58 8)).1 58 5)) ((y_si m 58 9 (m.1 58 8)).1 58 5))), (0, .ref 58)] [.int ((y_si (y_si m 58 9 (m.1 58 8)) 58 8 ((y_si m 58 9 (m.1 58 8)).1 58 5)).1 58 2), .int ((y_si (y_si m 58 9 (m.1 58 8)) 58 8 ((y_si m 58 9 (m.1 58 8)).1 58 5)).1 58 5)] (y_si (y_si m 58 9 (m.1 58 8)) 58 8 ((y_si m 58 9 (m.1 58 8)).1 58 5)) _
      refine y_ilt (t := 80) rfl rfl rfl (fun h64 => ?_) (fun h64 => ?_)
      · exact absurd h64 (Int32.not_lt.mpr he)
      · refine y_st rfl rfl rfl rfl rfl (fun _ _ => rfl) ?_
        refine y_st rfl rfl rfl rfl rfl (fun _ _ => rfl) ?_
        refine y_st rfl rfl rfl rfl rfl (fun _ _ => rfl) ?_
        refine y_st rfl rfl rfl rfl rfl (fun _ _ => rfl) ?_
        refine y_gf rfl rfl rfl rfl rfl ?_
        show yP (xg xs) (d + 2) 272 74 [(1, .int (lk_ (y_si (y_si m 58 9 (m.1 58 8)) 58 8 ((y_si m 58 9 (m.1 58 8)).1 58 5)) ((y_si m 58 9 (m.1 58 8)).1 58 5))), (0, .ref 58)] [.int ((y_si (y_si m 58 9 (m.1 58 8)) 58 8 ((y_si m 58 9 (m.1 58 8)).1 58 5)).1 58 2), .int (0 : Int32), .int (0 : Int32), .ref 58] (y_si (y_si m 58 9 (m.1 58 8)) 58 8 ((y_si m 58 9 (m.1 58 8)).1 58 5)) _
        refine y_call rfl rfl rfl rfl rfl (Nat.le_of_ble_eq_true rfl) (Nat.le_of_ble_eq_true rfl) rfl (by decide) (yC.mono (Nat.zero_le _) (fun _ _ z => z) (c277 xs 0 (y_si (y_si m 58 9 (m.1 58 8)) 58 8 ((y_si m 58 9 (m.1 58 8)).1 58 5)) (0 : Int32) (0 : Int32) ((y_si (y_si m 58 9 (m.1 58 8)) 58 8 ((y_si m 58 9 (m.1 58 8)).1 58 5)).1 58 2))) (fun v3 m3 q3 => ?_)
        obtain ⟨rfl, e3⟩ := q3; rw [e3]; clear e3
        refine y_st rfl rfl rfl rfl rfl (fun _ _ => rfl) ?_
        show yP (xg xs) (d + 2) 272 150 [(1, .int (lk_ (y_si (y_si m 58 9 (m.1 58 8)) 58 8 ((y_si m 58 9 (m.1 58 8)).1 58 5)) ((y_si m 58 9 (m.1 58 8)).1 58 5))), (0, .ref 58)] [] (tkn (y_si (y_si m 58 9 (m.1 58 8)) 58 8 ((y_si m 58 9 (m.1 58 8)).1 58 5)) (0 : Int32) (0 : Int32) ((y_si (y_si m 58 9 (m.1 58 8)) 58 8 ((y_si m 58 9 (m.1 58 8)).1 58 5)).1 58 2)) _
        exact y_ret rfl rfl rfl rfl (⟨rfl, rfl⟩)
    · exact absurd h26 (by decide)
  · exact absurd (by rw [hf]; decide) h4
set_option maxRecDepth 20000 in
/-- reference: readText of nothing -/
theorem c270e (xs : List Int32) (d : Nat) (m : yM) (hf : m.1 58 3 = 0) (hn : m.1 58 21 = 0) (h5 : m.1 58 5 = 0) (h2 : m.1 58 2 = 0) : yC (xg xs) (d + 3) 270 [.ref 58] m (fun r m' => r = some (.int (nI 0)) ∧ m' = tkn (y_si (y_si (ndAdd m 0 0 0 0) 58 9 ((ndAdd m 0 0 0 0).1 58 8)) 58 8 ((ndAdd m 0 0 0 0).1 58 5)) 0 0 ((ndAdd m 0 0 0 0).1 58 2)) := by
  refine y_st rfl rfl rfl rfl rfl (fun _ _ => rfl) ?_
  refine y_st rfl rfl rfl rfl rfl (fun _ _ => rfl) ?_
  refine y_st rfl rfl rfl rfl rfl (fun _ _ => rfl) ?_
  refine y_st rfl rfl rfl rfl rfl (fun _ _ => rfl) ?_
  show yP (xg xs) (d + 3) 270 4 [(0, .ref 58)] [.int (0 : Int32), .int (0 : Int32), .int (0 : Int32), .ref 58] m _
  refine y_call rfl rfl rfl rfl rfl (Nat.le_of_ble_eq_true rfl) (Nat.le_of_ble_eq_true rfl) rfl (by decide) (yC.mono (Nat.zero_le _) (fun _ _ z => z) (c271 xs 0 m 0 0 0 0 hn (by decide))) (fun v1 m1 q1 => ?_)
  obtain ⟨rfl, e1⟩ := q1; rw [e1]; clear e1
  refine y_st rfl rfl rfl rfl rfl (fun _ _ => rfl) ?_
  refine y_st rfl rfl rfl rfl rfl (fun _ _ => rfl) ?_
  show yP (xg xs) (d + 3) 270 9 [(1, .int (nI 0)), (0, .ref 58)] [.ref 58] (ndAdd m 0 0 0 0) _
  refine y_call rfl rfl rfl rfl rfl (Nat.le_of_ble_eq_true rfl) (Nat.le_of_ble_eq_true rfl) rfl (by decide) (c272e xs d (ndAdd m 0 0 0 0) (by simp [ndAdd, y_si_at, hf]) (by simp [ndAdd, y_si_at, h5]) (by simp [ndAdd, y_si_at, h2]) (by simp [ndAdd, y_si_at, h2, h5])) (fun v2 m2 q2 => ?_)
  obtain ⟨rfl, e2⟩ := q2; rw [e2]; clear e2
  refine y_st rfl rfl rfl rfl rfl (fun _ _ => rfl) ?_
  refine y_gf rfl rfl rfl rfl rfl ?_
  show yP (xg xs) (d + 3) 270 16 [(1, .int (nI 0)), (0, .ref 58)] [.int ((tkn (y_si (y_si (ndAdd m 0 0 0 0) 58 9 ((ndAdd m 0 0 0 0).1 58 8)) 58 8 ((ndAdd m 0 0 0 0).1 58 5)) 0 0 ((ndAdd m 0 0 0 0).1 58 2)).1 58 3)] (tkn (y_si (y_si (ndAdd m 0 0 0 0) 58 9 ((ndAdd m 0 0 0 0).1 58 8)) 58 8 ((ndAdd m 0 0 0 0).1 58 5)) 0 0 ((ndAdd m 0 0 0 0).1 58 2)) _
  refine y_zne (t := 78) rfl rfl rfl (fun h16 => ?_) (fun h16 => ?_)
  · exact absurd (by simp [tkn, ndAdd, y_si_at, hf]) h16
  · refine y_st rfl rfl rfl rfl rfl (fun _ _ => rfl) ?_
    refine y_gf rfl rfl rfl rfl rfl ?_
    show yP (xg xs) (d + 3) 270 23 [(1, .int (nI 0)), (0, .ref 58)] [.int ((tkn (y_si (y_si (ndAdd m 0 0 0 0) 58 9 ((ndAdd m 0 0 0 0).1 58 8)) 58 8 ((ndAdd m 0 0 0 0).1 58 5)) 0 0 ((ndAdd m 0 0 0 0).1 58 2)).1 58 6)] (tkn (y_si (y_si (ndAdd m 0 0 0 0) 58 9 ((ndAdd m 0 0 0 0).1 58 8)) 58 8 ((ndAdd m 0 0 0 0).1 58 5)) 0 0 ((ndAdd m 0 0 0 0).1 58 2)) _
    refine y_zeq (t := 78) rfl rfl rfl (fun h23 => ?_) (fun h23 => ?_)
    · refine y_st rfl rfl rfl rfl rfl (fun _ _ => rfl) ?_
      show yP (xg xs) (d + 3) 270 79 [(1, .int (nI 0)), (0, .ref 58)] [.int (nI 0)] (tkn (y_si (y_si (ndAdd m 0 0 0 0) 58 9 ((ndAdd m 0 0 0 0).1 58 8)) 58 8 ((ndAdd m 0 0 0 0).1 58 5)) 0 0 ((ndAdd m 0 0 0 0).1 58 2)) _
      exact y_iret rfl rfl rfl (⟨rfl, rfl⟩)
    · exact absurd (by simp [tkn, ndAdd, y_si_at]) h23
set_option maxRecDepth 20000 in
/-- reference: rule that holds -/
theorem c323a (xs : List Int32) (d : Nat) (m : yM) (f : Int32) (k : Int32) : yC (xg xs) d 323 [.ref 58, .int f, .int (0 : Int32), .int k] m (fun r m' => r = none ∧ m' = m) := by
  refine y_st rfl rfl rfl rfl rfl (fun _ _ => rfl) ?_
  show yP (xg xs) d 323 1 [(0, .ref 58), (1, .int f), (2, .int (0 : Int32)), (3, .int k)] [.int (0 : Int32)] m _
  refine y_zeq (t := 15) rfl rfl rfl (fun h1 => ?_) (fun h1 => ?_)
  · show yP (xg xs) d 323 15 [(0, .ref 58), (1, .int f), (2, .int (0 : Int32)), (3, .int k)] [] m _
    exact y_ret rfl rfl rfl rfl (⟨rfl, rfl⟩)
  · exact absurd h1 (by decide)
set_option maxRecDepth 20000 in
/-- reference: rule that is broken -/
theorem c323b (xs : List Int32) (d : Nat) (m : yM) (f : Int32) (k : Nat) (hk : k < 20000) : yC (xg xs) (d + 1) 323 [.ref 58, .int f, .int (1 : Int32), .int (nI k)] m (fun r m' => r = none ∧ m' = (if m.1 58 3 = 0 then y_si (y_si m 58 3 f) 58 4 (m.1 63 k) else m)) := by
  refine y_st rfl rfl rfl rfl rfl (fun _ _ => rfl) ?_
  show yP (xg xs) (d + 1) 323 1 [(0, .ref 58), (1, .int f), (2, .int (1 : Int32)), (3, .int (nI k))] [.int (1 : Int32)] m _
  refine y_zeq (t := 15) rfl rfl rfl (fun h1 => ?_) (fun h1 => ?_)
  · exact absurd h1 (by decide)
  · refine y_st rfl rfl rfl rfl rfl (fun _ _ => rfl) ?_
    refine y_st rfl rfl rfl rfl rfl (fun _ _ => rfl) ?_
    refine y_st rfl rfl rfl rfl rfl (fun _ _ => rfl) ?_
    refine y_gf rfl rfl rfl rfl rfl ?_
    refine y_st rfl rfl rfl rfl rfl (fun _ _ => rfl) ?_
    show yP (xg xs) (d + 1) 323 11 [(0, .ref 58), (1, .int f), (2, .int (1 : Int32)), (3, .int (nI k))] [.int (nI k), .ref 63, .int f, .ref 58] m _
    refine y_iald rfl rfl rfl (x_in_nI hk (by decide)) ?_
    show yP (xg xs) (d + 1) 323 12 [(0, .ref 58), (1, .int f), (2, .int (1 : Int32)), (3, .int (nI k))] [.int (m.1 63 ((nI k).toNatClampNeg)), .int f, .ref 58] m _
    refine y_call rfl rfl rfl rfl rfl (Nat.le_of_ble_eq_true rfl) (Nat.le_of_ble_eq_true rfl) rfl (by decide) (c276 xs d m f (m.1 63 ((nI k).toNatClampNeg))) (fun v1 m1 q1 => ?_)
    obtain ⟨rfl, e1⟩ := q1; rw [e1]; clear e1
    show yP (xg xs) (d + 1) 323 15 [(0, .ref 58), (1, .int f), (2, .int (1 : Int32)), (3, .int (nI k))] [] (if m.1 58 3 = 0 then y_si (y_si m 58 3 f) 58 4 (m.1 63 ((nI k).toNatClampNeg)) else m) _
    exact y_ret rfl rfl rfl rfl (by refine ⟨rfl, ?_⟩; rw [nI_clamp (by omega)])
set_option maxRecDepth 20000 in
/-- reference: allCells of no block -/
theorem c328e (xs : List Int32) (d : Nat) (m : yM) (h : m.1 58 23 = 0) : yC (xg xs) d 328 [.ref 58] m (fun r m' => r = some (.int 0) ∧ m' = m) := by
  refine y_st rfl rfl rfl rfl rfl (fun _ _ => rfl) ?_
  refine y_st rfl rfl rfl rfl rfl (fun _ _ => rfl) ?_
  refine y_st rfl rfl rfl rfl rfl (fun _ _ => rfl) ?_
  refine y_st rfl rfl rfl rfl rfl (fun _ _ => rfl) ?_
  refine y_st rfl rfl rfl rfl rfl (fun _ _ => rfl) ?_
  refine y_st rfl rfl rfl rfl rfl (fun _ _ => rfl) ?_
  refine y_gf rfl rfl rfl rfl rfl ?_
  show yP (xg xs) d 328 9 [(2, .int (0 : Int32)), (1, .int (0 : Int32)), (0, .ref 58)] [.int (m.1 58 23), .int (0 : Int32)] m _
  refine y_ige (t := 46) rfl rfl rfl (fun h9 => ?_) (fun h9 => ?_)
  · refine y_st rfl rfl rfl rfl rfl (fun _ _ => rfl) ?_
    show yP (xg xs) d 328 47 [(2, .int (0 : Int32)), (1, .int (0 : Int32)), (0, .ref 58)] [.int (0 : Int32)] m _
    exact y_iret rfl rfl rfl (⟨rfl, rfl⟩)
  · exact absurd (by rw [h]; decide) h9
set_option maxRecDepth 20000 in
/-- reference: judgePlan of no block -/
theorem c327e (xs : List Int32) (d : Nat) (m : yM) (hf : m.1 58 3 = 0) (hp : m.1 58 29 = 0) (h : m.1 58 23 = 0) : yC (xg xs) (d + 2) 327 [.ref 58, .int (nI 0), .int (0 : Int32)] m (fun r m' => r = none ∧ m' = (y_si (y_si m 58 3 10) 58 4 (m.1 63 0))) := by
  refine y_st rfl rfl rfl rfl rfl (fun _ _ => rfl) ?_
  show yP (xg xs) (d + 2) 327 1 [(0, .ref 58), (1, .int (nI 0)), (2, .int (0 : Int32))] [.int (0 : Int32)] m _
  refine y_tsw (t := 60) rfl rfl (rfl) ?_
  refine y_st rfl rfl rfl rfl rfl (fun _ _ => rfl) ?_
  refine y_st rfl rfl rfl rfl rfl (fun _ _ => rfl) ?_
  refine y_st rfl rfl rfl rfl rfl (fun _ _ => rfl) ?_
  refine y_gf rfl rfl rfl rfl rfl ?_
  show yP (xg xs) (d + 2) 327 67 [(0, .ref 58), (1, .int (nI 0)), (2, .int (0 : Int32))] [.int (m.1 58 29), .int (10 : Int32), .ref 58] m _
  refine y_zne (t := 74) rfl rfl rfl (fun h67 => ?_) (fun h67 => ?_)
  · exact absurd hp h67
  · refine y_st rfl rfl rfl rfl rfl (fun _ _ => rfl) ?_
    refine y_st rfl rfl rfl rfl rfl (fun _ _ => rfl) ?_
    refine y_st rfl rfl rfl rfl rfl (fun _ _ => rfl) ?_
    show yP (xg xs) (d + 2) 327 76 [(0, .ref 58), (1, .int (nI 0)), (2, .int (0 : Int32))] [.int (nI 0), .int (1 : Int32), .int (10 : Int32), .ref 58] m _
    refine y_call rfl rfl rfl rfl rfl (Nat.le_of_ble_eq_true rfl) (Nat.le_of_ble_eq_true rfl) rfl (by decide) (c323b xs d m 10 0 (by decide)) (fun v1 m1 q1 => ?_)
    obtain ⟨rfl, e1⟩ := q1; rw [if_pos hf] at e1; rw [e1]; clear e1
    refine y_st rfl rfl rfl rfl rfl (fun _ _ => rfl) ?_
    refine y_st rfl rfl rfl rfl rfl (fun _ _ => rfl) ?_
    refine y_st rfl rfl rfl rfl rfl (fun _ _ => rfl) ?_
    show yP (xg xs) (d + 2) 327 83 [(0, .ref 58), (1, .int (nI 0)), (2, .int (0 : Int32))] [.ref 58, .int (42 : Int32), .ref 58] (y_si (y_si m 58 3 10) 58 4 (m.1 63 0)) _
    refine y_call rfl rfl rfl rfl rfl (Nat.le_of_ble_eq_true rfl) (Nat.le_of_ble_eq_true rfl) rfl (by decide) (yC.mono (Nat.zero_le _) (fun _ _ z => z) (c328e xs 0 (y_si (y_si m 58 3 10) 58 4 (m.1 63 0)) (by simp [y_si_at, h]))) (fun v2 m2 q2 => ?_)
    obtain ⟨rfl, e2⟩ := q2; rw [e2]; clear e2
    refine y_st rfl rfl rfl rfl rfl (fun _ _ => rfl) ?_
    show yP (xg xs) (d + 2) 327 89 [(0, .ref 58), (1, .int (nI 0)), (2, .int (0 : Int32))] [.int (8192 : Int32), .int (0 : Int32), .int (42 : Int32), .ref 58] (y_si (y_si m 58 3 10) 58 4 (m.1 63 0)) _
    refine y_ile (t := 96) rfl rfl rfl (fun h89 => ?_) (fun h89 => ?_)
    · refine y_st rfl rfl rfl rfl rfl (fun _ _ => rfl) ?_
      refine y_st rfl rfl rfl rfl rfl (fun _ _ => rfl) ?_
      show yP (xg xs) (d + 2) 327 98 [(0, .ref 58), (1, .int (nI 0)), (2, .int (0 : Int32))] [.int (nI 0), .int (0 : Int32), .int (42 : Int32), .ref 58] (y_si (y_si m 58 3 10) 58 4 (m.1 63 0)) _
      refine y_call rfl rfl rfl rfl rfl (Nat.le_of_ble_eq_true rfl) (Nat.le_of_ble_eq_true rfl) rfl (by decide) (yC.mono (Nat.zero_le _) (fun _ _ z => z) (c323a xs 0 (y_si (y_si m 58 3 10) 58 4 (m.1 63 0)) 42 (nI 0))) (fun v3 m3 q3 => ?_)
      obtain ⟨rfl, e3⟩ := q3; rw [e3]; clear e3
      refine y_st rfl rfl rfl rfl rfl (fun _ _ => rfl) ?_
      show yP (xg xs) (d + 2) 327 442 [(0, .ref 58), (1, .int (nI 0)), (2, .int (0 : Int32))] [] (y_si (y_si m 58 3 10) 58 4 (m.1 63 0)) _
      exact y_ret rfl rfl rfl rfl (⟨rfl, rfl⟩)
    · exact absurd h89 (by decide)
set_option maxRecDepth 20000 in
/-- reference: judge of no block -/
theorem c321e (xs : List Int32) (d : Nat) (m : yM) (hf : m.1 58 3 = 0) (hp : m.1 58 29 = 0) (h : m.1 58 23 = 0) (hk : m.1 62 0 = 0) (h1 : m.1 66 0 = -1) : yC (xg xs) (d + 3) 321 [.ref 58, .int (nI 0)] m (fun r m' => r = none ∧ m' = (y_si (y_si m 58 3 10) 58 4 (m.1 63 0))) := by
  have K0 : m.1 62 (nI 0).toNatClampNeg = 0 := hk
  have K1 : m.1 66 (nI 0).toNatClampNeg = -1 := h1
  refine y_st rfl rfl rfl rfl rfl (fun _ _ => rfl) ?_
  refine y_gf rfl rfl rfl rfl rfl ?_
  refine y_st rfl rfl rfl rfl rfl (fun _ _ => rfl) ?_
  show yP (xg xs) (d + 3) 321 5 [(0, .ref 58), (1, .int (nI 0))] [.int (nI 0), .ref 62] m _
  refine y_iald rfl rfl rfl (by decide) ?_
  refine y_st rfl rfl rfl rfl rfl (fun _ _ => rfl) ?_
  refine y_st rfl rfl rfl rfl rfl (fun _ _ => rfl) ?_
  refine y_st rfl rfl rfl rfl rfl (fun _ _ => rfl) ?_
  show yP (xg xs) (d + 3) 321 9 [(2, .int (m.1 62 ((nI 0).toNatClampNeg))), (0, .ref 58), (1, .int (nI 0))] [.int (1 : Int32), .int (m.1 62 ((nI 0).toNatClampNeg))] m _
  refine y_ieq (t := 22) rfl rfl rfl (fun h9 => ?_) (fun h9 => ?_)
  · exact absurd h9 (by rw [K0]; decide)
  · refine y_st rfl rfl rfl rfl rfl (fun _ _ => rfl) ?_
    refine y_st rfl rfl rfl rfl rfl (fun _ _ => rfl) ?_
    show yP (xg xs) (d + 3) 321 14 [(2, .int (m.1 62 ((nI 0).toNatClampNeg))), (0, .ref 58), (1, .int (nI 0))] [.int (2 : Int32), .int (m.1 62 ((nI 0).toNatClampNeg))] m _
    refine y_ieq (t := 22) rfl rfl rfl (fun h14 => ?_) (fun h14 => ?_)
    · exact absurd h14 (by rw [K0]; decide)
    · refine y_st rfl rfl rfl rfl rfl (fun _ _ => rfl) ?_
      refine y_st rfl rfl rfl rfl rfl (fun _ _ => rfl) ?_
      show yP (xg xs) (d + 3) 321 19 [(2, .int (m.1 62 ((nI 0).toNatClampNeg))), (0, .ref 58), (1, .int (nI 0))] [.int (3 : Int32), .int (m.1 62 ((nI 0).toNatClampNeg))] m _
      refine y_ine (t := 27) rfl rfl rfl (fun h19 => ?_) (fun h19 => ?_)
      · refine y_st rfl rfl rfl rfl rfl (fun _ _ => rfl) ?_
        refine y_gf rfl rfl rfl rfl rfl ?_
        refine y_st rfl rfl rfl rfl rfl (fun _ _ => rfl) ?_
        show yP (xg xs) (d + 3) 321 32 [(2, .int (m.1 62 ((nI 0).toNatClampNeg))), (0, .ref 58), (1, .int (nI 0))] [.int (nI 0), .ref 66] m _
        refine y_iald rfl rfl rfl (by decide) ?_
        refine y_st rfl rfl rfl rfl rfl (fun _ _ => rfl) ?_
        refine y_st rfl rfl rfl rfl rfl (fun _ _ => rfl) ?_
        refine y_st rfl rfl rfl rfl rfl (fun _ _ => rfl) ?_
        show yP (xg xs) (d + 3) 321 36 [(3, .int (m.1 66 ((nI 0).toNatClampNeg))), (2, .int (m.1 62 ((nI 0).toNatClampNeg))), (0, .ref 58), (1, .int (nI 0))] [.int ((-1) : Int32), .int (m.1 66 ((nI 0).toNatClampNeg))] m _
        refine y_ieq (t := 61) rfl rfl rfl (fun h36 => ?_) (fun h36 => ?_)
        · refine y_st rfl rfl rfl rfl rfl (fun _ _ => rfl) ?_
          refine y_gf rfl rfl rfl rfl rfl ?_
          show yP (xg xs) (d + 3) 321 65 [(3, .int (m.1 66 ((nI 0).toNatClampNeg))), (2, .int (m.1 62 ((nI 0).toNatClampNeg))), (0, .ref 58), (1, .int (nI 0))] [.int (m.1 58 3)] m _
          refine y_zle (t := 69) rfl rfl rfl (fun h65 => ?_) (fun h65 => ?_)
          · refine y_st rfl rfl rfl rfl rfl (fun _ _ => rfl) ?_
            refine y_st rfl rfl rfl rfl rfl (fun _ _ => rfl) ?_
            show yP (xg xs) (d + 3) 321 72 [(3, .int (m.1 66 ((nI 0).toNatClampNeg))), (2, .int (m.1 62 ((nI 0).toNatClampNeg))), (0, .ref 58), (1, .int (nI 0))] [.int (12 : Int32), .int (m.1 62 ((nI 0).toNatClampNeg))] m _
            refine y_ige (t := 84) rfl rfl rfl (fun h72 => ?_) (fun h72 => ?_)
            · exact absurd h72 (by rw [K0]; decide)
            · refine y_st rfl rfl rfl rfl rfl (fun _ _ => rfl) ?_
              refine y_st rfl rfl rfl rfl rfl (fun _ _ => rfl) ?_
              refine y_st rfl rfl rfl rfl rfl (fun _ _ => rfl) ?_
              show yP (xg xs) (d + 3) 321 78 [(3, .int (m.1 66 ((nI 0).toNatClampNeg))), (2, .int (m.1 62 ((nI 0).toNatClampNeg))), (0, .ref 58), (1, .int (nI 0))] [.int (m.1 62 ((nI 0).toNatClampNeg)), .int (nI 0), .ref 58] m _
              rw [K0]
              refine y_call rfl rfl rfl rfl rfl (Nat.le_of_ble_eq_true rfl) (Nat.le_of_ble_eq_true rfl) rfl (by decide) (c327e xs d m hf hp h) (fun v1 m1 q1 => ?_)
              obtain ⟨rfl, e1⟩ := q1; rw [e1]; clear e1
              refine y_st rfl rfl rfl rfl rfl (fun _ _ => rfl) ?_
              show yP (xg xs) (d + 3) 321 120 [(3, .int (m.1 66 ((nI 0).toNatClampNeg))), (2, .int (0 : Int32)), (0, .ref 58), (1, .int (nI 0))] [] (y_si (y_si m 58 3 10) 58 4 (m.1 63 0)) _
              exact y_ret rfl rfl rfl rfl (⟨rfl, rfl⟩)
          · exact absurd (by rw [hf]; decide) h65
        · exact absurd K1 h36
      · exact absurd h19 (by rw [K0]; decide)
set_option maxRecDepth 20000 in
/-- reference: make on the empty text -/
theorem c269e (xs : List Int32) (d : Nat) (m : yM) (h2 : m.1 58 2 = 0) : yC (xg xs) (d + 4) 269 [.ref 58] m (fun r m' => r = some (.int 10)) := by
  refine y_st rfl rfl rfl rfl rfl (fun _ _ => rfl) ?_
  refine y_st rfl rfl rfl rfl rfl (fun _ _ => rfl) ?_
  refine y_pfi rfl rfl rfl rfl rfl (x_fit_i _) ?_
  show yP (xg xs) (d + 4) 269 5 [(0, .ref 58)] [] (y_si m 58 0 (0 : Int32)) _
  refine y_st rfl rfl rfl rfl rfl (fun _ _ => rfl) ?_
  refine y_st rfl rfl rfl rfl rfl (fun _ _ => rfl) ?_
  refine y_pfi rfl rfl rfl rfl rfl (x_fit_i _) ?_
  show yP (xg xs) (d + 4) 269 10 [(0, .ref 58)] [] (y_si (y_si m 58 0 (0 : Int32)) 58 3 (0 : Int32)) _
  refine y_st rfl rfl rfl rfl rfl (fun _ _ => rfl) ?_
  refine y_st rfl rfl rfl rfl rfl (fun _ _ => rfl) ?_
  refine y_pfi rfl rfl rfl rfl rfl (x_fit_i _) ?_
  show yP (xg xs) (d + 4) 269 15 [(0, .ref 58)] [] (y_si (y_si (y_si m 58 0 (0 : Int32)) 58 3 (0 : Int32)) 58 4 ((-1) : Int32)) _
  refine y_st rfl rfl rfl rfl rfl (fun _ _ => rfl) ?_
  refine y_st rfl rfl rfl rfl rfl (fun _ _ => rfl) ?_
  refine y_pfi rfl rfl rfl rfl rfl (x_fit_i _) ?_
  show yP (xg xs) (d + 4) 269 20 [(0, .ref 58)] [] (y_si (y_si (y_si (y_si m 58 0 (0 : Int32)) 58 3 (0 : Int32)) 58 4 ((-1) : Int32)) 58 5 (0 : Int32)) _
  refine y_st rfl rfl rfl rfl rfl (fun _ _ => rfl) ?_
  refine y_st rfl rfl rfl rfl rfl (fun _ _ => rfl) ?_
  refine y_pfi rfl rfl rfl rfl rfl (x_fit_i _) ?_
  show yP (xg xs) (d + 4) 269 25 [(0, .ref 58)] [] (y_si (y_si (y_si (y_si (y_si m 58 0 (0 : Int32)) 58 3 (0 : Int32)) 58 4 ((-1) : Int32)) 58 5 (0 : Int32)) 58 8 (0 : Int32)) _
  refine y_st rfl rfl rfl rfl rfl (fun _ _ => rfl) ?_
  refine y_st rfl rfl rfl rfl rfl (fun _ _ => rfl) ?_
  refine y_pfi rfl rfl rfl rfl rfl (x_fit_i _) ?_
  show yP (xg xs) (d + 4) 269 30 [(0, .ref 58)] [] (y_si (y_si (y_si (y_si (y_si (y_si m 58 0 (0 : Int32)) 58 3 (0 : Int32)) 58 4 ((-1) : Int32)) 58 5 (0 : Int32)) 58 8 (0 : Int32)) 58 12 (0 : Int32)) _
  refine y_st rfl rfl rfl rfl rfl (fun _ _ => rfl) ?_
  refine y_st rfl rfl rfl rfl rfl (fun _ _ => rfl) ?_
  refine y_pfi rfl rfl rfl rfl rfl (x_fit_i _) ?_
  show yP (xg xs) (d + 4) 269 35 [(0, .ref 58)] [] (y_si (y_si (y_si (y_si (y_si (y_si (y_si m 58 0 (0 : Int32)) 58 3 (0 : Int32)) 58 4 ((-1) : Int32)) 58 5 (0 : Int32)) 58 8 (0 : Int32)) 58 12 (0 : Int32)) 58 21 (0 : Int32)) _
  refine y_st rfl rfl rfl rfl rfl (fun _ _ => rfl) ?_
  refine y_st rfl rfl rfl rfl rfl (fun _ _ => rfl) ?_
  refine y_pfi rfl rfl rfl rfl rfl (x_fit_i _) ?_
  show yP (xg xs) (d + 4) 269 40 [(0, .ref 58)] [] (y_si (y_si (y_si (y_si (y_si (y_si (y_si (y_si m 58 0 (0 : Int32)) 58 3 (0 : Int32)) 58 4 ((-1) : Int32)) 58 5 (0 : Int32)) 58 8 (0 : Int32)) 58 12 (0 : Int32)) 58 21 (0 : Int32)) 58 22 (0 : Int32)) _
  refine y_st rfl rfl rfl rfl rfl (fun _ _ => rfl) ?_
  refine y_st rfl rfl rfl rfl rfl (fun _ _ => rfl) ?_
  refine y_pfi rfl rfl rfl rfl rfl (x_fit_i _) ?_
  show yP (xg xs) (d + 4) 269 45 [(0, .ref 58)] [] (y_si (y_si (y_si (y_si (y_si (y_si (y_si (y_si (y_si m 58 0 (0 : Int32)) 58 3 (0 : Int32)) 58 4 ((-1) : Int32)) 58 5 (0 : Int32)) 58 8 (0 : Int32)) 58 12 (0 : Int32)) 58 21 (0 : Int32)) 58 22 (0 : Int32)) 58 23 (0 : Int32)) _
  refine y_st rfl rfl rfl rfl rfl (fun _ _ => rfl) ?_
  refine y_st rfl rfl rfl rfl rfl (fun _ _ => rfl) ?_
  refine y_pfi rfl rfl rfl rfl rfl (x_fit_i _) ?_
  show yP (xg xs) (d + 4) 269 50 [(0, .ref 58)] [] (y_si (y_si (y_si (y_si (y_si (y_si (y_si (y_si (y_si (y_si m 58 0 (0 : Int32)) 58 3 (0 : Int32)) 58 4 ((-1) : Int32)) 58 5 (0 : Int32)) 58 8 (0 : Int32)) 58 12 (0 : Int32)) 58 21 (0 : Int32)) 58 22 (0 : Int32)) 58 23 (0 : Int32)) 58 30 (0 : Int32)) _
  refine y_st rfl rfl rfl rfl rfl (fun _ _ => rfl) ?_
  refine y_st rfl rfl rfl rfl rfl (fun _ _ => rfl) ?_
  refine y_pfi rfl rfl rfl rfl rfl (x_fit_z (by decide)) ?_
  show yP (xg xs) (d + 4) 269 55 [(0, .ref 58)] [] (y_si (y_si (y_si (y_si (y_si (y_si (y_si (y_si (y_si (y_si (y_si m 58 0 (0 : Int32)) 58 3 (0 : Int32)) 58 4 ((-1) : Int32)) 58 5 (0 : Int32)) 58 8 (0 : Int32)) 58 12 (0 : Int32)) 58 21 (0 : Int32)) 58 22 (0 : Int32)) 58 23 (0 : Int32)) 58 30 (0 : Int32)) 58 29 (0 : Int32)) _
  refine y_st rfl rfl rfl rfl rfl (fun _ _ => rfl) ?_
  refine y_st rfl rfl rfl rfl rfl (fun _ _ => rfl) ?_
  refine y_pfi rfl rfl rfl rfl rfl (x_fit_z (by decide)) ?_
  show yP (xg xs) (d + 4) 269 60 [(0, .ref 58)] [] (y_si (y_si (y_si (y_si (y_si (y_si (y_si (y_si (y_si (y_si (y_si (y_si m 58 0 (0 : Int32)) 58 3 (0 : Int32)) 58 4 ((-1) : Int32)) 58 5 (0 : Int32)) 58 8 (0 : Int32)) 58 12 (0 : Int32)) 58 21 (0 : Int32)) 58 22 (0 : Int32)) 58 23 (0 : Int32)) 58 30 (0 : Int32)) 58 29 (0 : Int32)) 58 61 (0 : Int32)) _
  refine y_st rfl rfl rfl rfl rfl (fun _ _ => rfl) ?_
  show yP (xg xs) (d + 4) 269 61 [(0, .ref 58)] [.ref 58] (y_si (y_si (y_si (y_si (y_si (y_si (y_si (y_si (y_si (y_si (y_si (y_si m 58 0 (0 : Int32)) 58 3 (0 : Int32)) 58 4 ((-1) : Int32)) 58 5 (0 : Int32)) 58 8 (0 : Int32)) 58 12 (0 : Int32)) 58 21 (0 : Int32)) 58 22 (0 : Int32)) 58 23 (0 : Int32)) 58 30 (0 : Int32)) 58 29 (0 : Int32)) 58 61 (0 : Int32)) _
  refine y_call rfl rfl rfl rfl rfl (Nat.le_of_ble_eq_true rfl) (Nat.le_of_ble_eq_true rfl) rfl (by decide) (yC.mono (by omega) (fun _ _ z => z) (c270e xs d (y_si (y_si (y_si (y_si (y_si (y_si (y_si (y_si (y_si (y_si (y_si (y_si m 58 0 (0 : Int32)) 58 3 (0 : Int32)) 58 4 ((-1) : Int32)) 58 5 (0 : Int32)) 58 8 (0 : Int32)) 58 12 (0 : Int32)) 58 21 (0 : Int32)) 58 22 (0 : Int32)) 58 23 (0 : Int32)) 58 30 (0 : Int32)) 58 29 (0 : Int32)) 58 61 (0 : Int32)) (by simp [tkn, ndAdd, y_si_at]) (by simp [tkn, ndAdd, y_si_at]) (by simp [tkn, ndAdd, y_si_at]) (by simp [tkn, ndAdd, y_si_at, h2]))) (fun v1 m1 q1 => ?_)
  obtain ⟨rfl, e1⟩ := q1; rw [e1]; clear e1
  refine y_st rfl rfl rfl rfl rfl (fun _ _ => rfl) ?_
  refine y_st rfl rfl rfl rfl rfl (fun _ _ => rfl) ?_
  refine y_gf rfl rfl rfl rfl rfl ?_
  show yP (xg xs) (d + 4) 269 69 [(1, .int (nI 0)), (0, .ref 58)] [.int ((tkn (y_si (y_si (ndAdd (y_si (y_si (y_si (y_si (y_si (y_si (y_si (y_si (y_si (y_si (y_si (y_si m 58 0 (0 : Int32)) 58 3 (0 : Int32)) 58 4 ((-1) : Int32)) 58 5 (0 : Int32)) 58 8 (0 : Int32)) 58 12 (0 : Int32)) 58 21 (0 : Int32)) 58 22 (0 : Int32)) 58 23 (0 : Int32)) 58 30 (0 : Int32)) 58 29 (0 : Int32)) 58 61 (0 : Int32)) 0 0 0 0) 58 9 ((ndAdd (y_si (y_si (y_si (y_si (y_si (y_si (y_si (y_si (y_si (y_si (y_si (y_si m 58 0 (0 : Int32)) 58 3 (0 : Int32)) 58 4 ((-1) : Int32)) 58 5 (0 : Int32)) 58 8 (0 : Int32)) 58 12 (0 : Int32)) 58 21 (0 : Int32)) 58 22 (0 : Int32)) 58 23 (0 : Int32)) 58 30 (0 : Int32)) 58 29 (0 : Int32)) 58 61 (0 : Int32)) 0 0 0 0).1 58 8)) 58 8 ((ndAdd (y_si (y_si (y_si (y_si (y_si (y_si (y_si (y_si (y_si (y_si (y_si (y_si m 58 0 (0 : Int32)) 58 3 (0 : Int32)) 58 4 ((-1) : Int32)) 58 5 (0 : Int32)) 58 8 (0 : Int32)) 58 12 (0 : Int32)) 58 21 (0 : Int32)) 58 22 (0 : Int32)) 58 23 (0 : Int32)) 58 30 (0 : Int32)) 58 29 (0 : Int32)) 58 61 (0 : Int32)) 0 0 0 0).1 58 5)) 0 0 ((ndAdd (y_si (y_si (y_si (y_si (y_si (y_si (y_si (y_si (y_si (y_si (y_si (y_si m 58 0 (0 : Int32)) 58 3 (0 : Int32)) 58 4 ((-1) : Int32)) 58 5 (0 : Int32)) 58 8 (0 : Int32)) 58 12 (0 : Int32)) 58 21 (0 : Int32)) 58 22 (0 : Int32)) 58 23 (0 : Int32)) 58 30 (0 : Int32)) 58 29 (0 : Int32)) 58 61 (0 : Int32)) 0 0 0 0).1 58 2)).1 58 3)] (tkn (y_si (y_si (ndAdd (y_si (y_si (y_si (y_si (y_si (y_si (y_si (y_si (y_si (y_si (y_si (y_si m 58 0 (0 : Int32)) 58 3 (0 : Int32)) 58 4 ((-1) : Int32)) 58 5 (0 : Int32)) 58 8 (0 : Int32)) 58 12 (0 : Int32)) 58 21 (0 : Int32)) 58 22 (0 : Int32)) 58 23 (0 : Int32)) 58 30 (0 : Int32)) 58 29 (0 : Int32)) 58 61 (0 : Int32)) 0 0 0 0) 58 9 ((ndAdd (y_si (y_si (y_si (y_si (y_si (y_si (y_si (y_si (y_si (y_si (y_si (y_si m 58 0 (0 : Int32)) 58 3 (0 : Int32)) 58 4 ((-1) : Int32)) 58 5 (0 : Int32)) 58 8 (0 : Int32)) 58 12 (0 : Int32)) 58 21 (0 : Int32)) 58 22 (0 : Int32)) 58 23 (0 : Int32)) 58 30 (0 : Int32)) 58 29 (0 : Int32)) 58 61 (0 : Int32)) 0 0 0 0).1 58 8)) 58 8 ((ndAdd (y_si (y_si (y_si (y_si (y_si (y_si (y_si (y_si (y_si (y_si (y_si (y_si m 58 0 (0 : Int32)) 58 3 (0 : Int32)) 58 4 ((-1) : Int32)) 58 5 (0 : Int32)) 58 8 (0 : Int32)) 58 12 (0 : Int32)) 58 21 (0 : Int32)) 58 22 (0 : Int32)) 58 23 (0 : Int32)) 58 30 (0 : Int32)) 58 29 (0 : Int32)) 58 61 (0 : Int32)) 0 0 0 0).1 58 5)) 0 0 ((ndAdd (y_si (y_si (y_si (y_si (y_si (y_si (y_si (y_si (y_si (y_si (y_si (y_si m 58 0 (0 : Int32)) 58 3 (0 : Int32)) 58 4 ((-1) : Int32)) 58 5 (0 : Int32)) 58 8 (0 : Int32)) 58 12 (0 : Int32)) 58 21 (0 : Int32)) 58 22 (0 : Int32)) 58 23 (0 : Int32)) 58 30 (0 : Int32)) 58 29 (0 : Int32)) 58 61 (0 : Int32)) 0 0 0 0).1 58 2)) _
  refine y_zne (t := 77) rfl rfl rfl (fun h69 => ?_) (fun h69 => ?_)
  · exact absurd (by simp [tkn, ndAdd, y_si_at]) h69
  · refine y_st rfl rfl rfl rfl rfl (fun _ _ => rfl) ?_
    refine y_st rfl rfl rfl rfl rfl (fun _ _ => rfl) ?_
    show yP (xg xs) (d + 4) 269 74 [(1, .int (nI 0)), (0, .ref 58)] [.int (nI 0), .ref 58] (tkn (y_si (y_si (ndAdd (y_si (y_si (y_si (y_si (y_si (y_si (y_si (y_si (y_si (y_si (y_si (y_si m 58 0 (0 : Int32)) 58 3 (0 : Int32)) 58 4 ((-1) : Int32)) 58 5 (0 : Int32)) 58 8 (0 : Int32)) 58 12 (0 : Int32)) 58 21 (0 : Int32)) 58 22 (0 : Int32)) 58 23 (0 : Int32)) 58 30 (0 : Int32)) 58 29 (0 : Int32)) 58 61 (0 : Int32)) 0 0 0 0) 58 9 ((ndAdd (y_si (y_si (y_si (y_si (y_si (y_si (y_si (y_si (y_si (y_si (y_si (y_si m 58 0 (0 : Int32)) 58 3 (0 : Int32)) 58 4 ((-1) : Int32)) 58 5 (0 : Int32)) 58 8 (0 : Int32)) 58 12 (0 : Int32)) 58 21 (0 : Int32)) 58 22 (0 : Int32)) 58 23 (0 : Int32)) 58 30 (0 : Int32)) 58 29 (0 : Int32)) 58 61 (0 : Int32)) 0 0 0 0).1 58 8)) 58 8 ((ndAdd (y_si (y_si (y_si (y_si (y_si (y_si (y_si (y_si (y_si (y_si (y_si (y_si m 58 0 (0 : Int32)) 58 3 (0 : Int32)) 58 4 ((-1) : Int32)) 58 5 (0 : Int32)) 58 8 (0 : Int32)) 58 12 (0 : Int32)) 58 21 (0 : Int32)) 58 22 (0 : Int32)) 58 23 (0 : Int32)) 58 30 (0 : Int32)) 58 29 (0 : Int32)) 58 61 (0 : Int32)) 0 0 0 0).1 58 5)) 0 0 ((ndAdd (y_si (y_si (y_si (y_si (y_si (y_si (y_si (y_si (y_si (y_si (y_si (y_si m 58 0 (0 : Int32)) 58 3 (0 : Int32)) 58 4 ((-1) : Int32)) 58 5 (0 : Int32)) 58 8 (0 : Int32)) 58 12 (0 : Int32)) 58 21 (0 : Int32)) 58 22 (0 : Int32)) 58 23 (0 : Int32)) 58 30 (0 : Int32)) 58 29 (0 : Int32)) 58 61 (0 : Int32)) 0 0 0 0).1 58 2)) _
    refine y_call rfl rfl rfl rfl rfl (Nat.le_of_ble_eq_true rfl) (Nat.le_of_ble_eq_true rfl) rfl (by decide) (c321e xs d (tkn (y_si (y_si (ndAdd (y_si (y_si (y_si (y_si (y_si (y_si (y_si (y_si (y_si (y_si (y_si (y_si m 58 0 (0 : Int32)) 58 3 (0 : Int32)) 58 4 ((-1) : Int32)) 58 5 (0 : Int32)) 58 8 (0 : Int32)) 58 12 (0 : Int32)) 58 21 (0 : Int32)) 58 22 (0 : Int32)) 58 23 (0 : Int32)) 58 30 (0 : Int32)) 58 29 (0 : Int32)) 58 61 (0 : Int32)) 0 0 0 0) 58 9 ((ndAdd (y_si (y_si (y_si (y_si (y_si (y_si (y_si (y_si (y_si (y_si (y_si (y_si m 58 0 (0 : Int32)) 58 3 (0 : Int32)) 58 4 ((-1) : Int32)) 58 5 (0 : Int32)) 58 8 (0 : Int32)) 58 12 (0 : Int32)) 58 21 (0 : Int32)) 58 22 (0 : Int32)) 58 23 (0 : Int32)) 58 30 (0 : Int32)) 58 29 (0 : Int32)) 58 61 (0 : Int32)) 0 0 0 0).1 58 8)) 58 8 ((ndAdd (y_si (y_si (y_si (y_si (y_si (y_si (y_si (y_si (y_si (y_si (y_si (y_si m 58 0 (0 : Int32)) 58 3 (0 : Int32)) 58 4 ((-1) : Int32)) 58 5 (0 : Int32)) 58 8 (0 : Int32)) 58 12 (0 : Int32)) 58 21 (0 : Int32)) 58 22 (0 : Int32)) 58 23 (0 : Int32)) 58 30 (0 : Int32)) 58 29 (0 : Int32)) 58 61 (0 : Int32)) 0 0 0 0).1 58 5)) 0 0 ((ndAdd (y_si (y_si (y_si (y_si (y_si (y_si (y_si (y_si (y_si (y_si (y_si (y_si m 58 0 (0 : Int32)) 58 3 (0 : Int32)) 58 4 ((-1) : Int32)) 58 5 (0 : Int32)) 58 8 (0 : Int32)) 58 12 (0 : Int32)) 58 21 (0 : Int32)) 58 22 (0 : Int32)) 58 23 (0 : Int32)) 58 30 (0 : Int32)) 58 29 (0 : Int32)) 58 61 (0 : Int32)) 0 0 0 0).1 58 2)) (by simp [tkn, ndAdd, y_si_at]) (by simp [tkn, ndAdd, y_si_at]) (by simp [tkn, ndAdd, y_si_at]) (by simp [tkn, ndAdd, y_si_at]) (by simp [tkn, ndAdd, y_si_at])) (fun v2 m2 q2 => ?_)
    obtain ⟨rfl, e2⟩ := q2; rw [e2]; clear e2
    refine y_st rfl rfl rfl rfl rfl (fun _ _ => rfl) ?_
    refine y_gf rfl rfl rfl rfl rfl ?_
    show yP (xg xs) (d + 4) 269 81 [(1, .int (nI 0)), (0, .ref 58)] [.int ((y_si (y_si (tkn (y_si (y_si (ndAdd (y_si (y_si (y_si (y_si (y_si (y_si (y_si (y_si (y_si (y_si (y_si (y_si m 58 0 (0 : Int32)) 58 3 (0 : Int32)) 58 4 ((-1) : Int32)) 58 5 (0 : Int32)) 58 8 (0 : Int32)) 58 12 (0 : Int32)) 58 21 (0 : Int32)) 58 22 (0 : Int32)) 58 23 (0 : Int32)) 58 30 (0 : Int32)) 58 29 (0 : Int32)) 58 61 (0 : Int32)) 0 0 0 0) 58 9 ((ndAdd (y_si (y_si (y_si (y_si (y_si (y_si (y_si (y_si (y_si (y_si (y_si (y_si m 58 0 (0 : Int32)) 58 3 (0 : Int32)) 58 4 ((-1) : Int32)) 58 5 (0 : Int32)) 58 8 (0 : Int32)) 58 12 (0 : Int32)) 58 21 (0 : Int32)) 58 22 (0 : Int32)) 58 23 (0 : Int32)) 58 30 (0 : Int32)) 58 29 (0 : Int32)) 58 61 (0 : Int32)) 0 0 0 0).1 58 8)) 58 8 ((ndAdd (y_si (y_si (y_si (y_si (y_si (y_si (y_si (y_si (y_si (y_si (y_si (y_si m 58 0 (0 : Int32)) 58 3 (0 : Int32)) 58 4 ((-1) : Int32)) 58 5 (0 : Int32)) 58 8 (0 : Int32)) 58 12 (0 : Int32)) 58 21 (0 : Int32)) 58 22 (0 : Int32)) 58 23 (0 : Int32)) 58 30 (0 : Int32)) 58 29 (0 : Int32)) 58 61 (0 : Int32)) 0 0 0 0).1 58 5)) 0 0 ((ndAdd (y_si (y_si (y_si (y_si (y_si (y_si (y_si (y_si (y_si (y_si (y_si (y_si m 58 0 (0 : Int32)) 58 3 (0 : Int32)) 58 4 ((-1) : Int32)) 58 5 (0 : Int32)) 58 8 (0 : Int32)) 58 12 (0 : Int32)) 58 21 (0 : Int32)) 58 22 (0 : Int32)) 58 23 (0 : Int32)) 58 30 (0 : Int32)) 58 29 (0 : Int32)) 58 61 (0 : Int32)) 0 0 0 0).1 58 2)) 58 3 10) 58 4 ((tkn (y_si (y_si (ndAdd (y_si (y_si (y_si (y_si (y_si (y_si (y_si (y_si (y_si (y_si (y_si (y_si m 58 0 (0 : Int32)) 58 3 (0 : Int32)) 58 4 ((-1) : Int32)) 58 5 (0 : Int32)) 58 8 (0 : Int32)) 58 12 (0 : Int32)) 58 21 (0 : Int32)) 58 22 (0 : Int32)) 58 23 (0 : Int32)) 58 30 (0 : Int32)) 58 29 (0 : Int32)) 58 61 (0 : Int32)) 0 0 0 0) 58 9 ((ndAdd (y_si (y_si (y_si (y_si (y_si (y_si (y_si (y_si (y_si (y_si (y_si (y_si m 58 0 (0 : Int32)) 58 3 (0 : Int32)) 58 4 ((-1) : Int32)) 58 5 (0 : Int32)) 58 8 (0 : Int32)) 58 12 (0 : Int32)) 58 21 (0 : Int32)) 58 22 (0 : Int32)) 58 23 (0 : Int32)) 58 30 (0 : Int32)) 58 29 (0 : Int32)) 58 61 (0 : Int32)) 0 0 0 0).1 58 8)) 58 8 ((ndAdd (y_si (y_si (y_si (y_si (y_si (y_si (y_si (y_si (y_si (y_si (y_si (y_si m 58 0 (0 : Int32)) 58 3 (0 : Int32)) 58 4 ((-1) : Int32)) 58 5 (0 : Int32)) 58 8 (0 : Int32)) 58 12 (0 : Int32)) 58 21 (0 : Int32)) 58 22 (0 : Int32)) 58 23 (0 : Int32)) 58 30 (0 : Int32)) 58 29 (0 : Int32)) 58 61 (0 : Int32)) 0 0 0 0).1 58 5)) 0 0 ((ndAdd (y_si (y_si (y_si (y_si (y_si (y_si (y_si (y_si (y_si (y_si (y_si (y_si m 58 0 (0 : Int32)) 58 3 (0 : Int32)) 58 4 ((-1) : Int32)) 58 5 (0 : Int32)) 58 8 (0 : Int32)) 58 12 (0 : Int32)) 58 21 (0 : Int32)) 58 22 (0 : Int32)) 58 23 (0 : Int32)) 58 30 (0 : Int32)) 58 29 (0 : Int32)) 58 61 (0 : Int32)) 0 0 0 0).1 58 2)).1 63 0)).1 58 3)] (y_si (y_si (tkn (y_si (y_si (ndAdd (y_si (y_si (y_si (y_si (y_si (y_si (y_si (y_si (y_si (y_si (y_si (y_si m 58 0 (0 : Int32)) 58 3 (0 : Int32)) 58 4 ((-1) : Int32)) 58 5 (0 : Int32)) 58 8 (0 : Int32)) 58 12 (0 : Int32)) 58 21 (0 : Int32)) 58 22 (0 : Int32)) 58 23 (0 : Int32)) 58 30 (0 : Int32)) 58 29 (0 : Int32)) 58 61 (0 : Int32)) 0 0 0 0) 58 9 ((ndAdd (y_si (y_si (y_si (y_si (y_si (y_si (y_si (y_si (y_si (y_si (y_si (y_si m 58 0 (0 : Int32)) 58 3 (0 : Int32)) 58 4 ((-1) : Int32)) 58 5 (0 : Int32)) 58 8 (0 : Int32)) 58 12 (0 : Int32)) 58 21 (0 : Int32)) 58 22 (0 : Int32)) 58 23 (0 : Int32)) 58 30 (0 : Int32)) 58 29 (0 : Int32)) 58 61 (0 : Int32)) 0 0 0 0).1 58 8)) 58 8 ((ndAdd (y_si (y_si (y_si (y_si (y_si (y_si (y_si (y_si (y_si (y_si (y_si (y_si m 58 0 (0 : Int32)) 58 3 (0 : Int32)) 58 4 ((-1) : Int32)) 58 5 (0 : Int32)) 58 8 (0 : Int32)) 58 12 (0 : Int32)) 58 21 (0 : Int32)) 58 22 (0 : Int32)) 58 23 (0 : Int32)) 58 30 (0 : Int32)) 58 29 (0 : Int32)) 58 61 (0 : Int32)) 0 0 0 0).1 58 5)) 0 0 ((ndAdd (y_si (y_si (y_si (y_si (y_si (y_si (y_si (y_si (y_si (y_si (y_si (y_si m 58 0 (0 : Int32)) 58 3 (0 : Int32)) 58 4 ((-1) : Int32)) 58 5 (0 : Int32)) 58 8 (0 : Int32)) 58 12 (0 : Int32)) 58 21 (0 : Int32)) 58 22 (0 : Int32)) 58 23 (0 : Int32)) 58 30 (0 : Int32)) 58 29 (0 : Int32)) 58 61 (0 : Int32)) 0 0 0 0).1 58 2)) 58 3 10) 58 4 ((tkn (y_si (y_si (ndAdd (y_si (y_si (y_si (y_si (y_si (y_si (y_si (y_si (y_si (y_si (y_si (y_si m 58 0 (0 : Int32)) 58 3 (0 : Int32)) 58 4 ((-1) : Int32)) 58 5 (0 : Int32)) 58 8 (0 : Int32)) 58 12 (0 : Int32)) 58 21 (0 : Int32)) 58 22 (0 : Int32)) 58 23 (0 : Int32)) 58 30 (0 : Int32)) 58 29 (0 : Int32)) 58 61 (0 : Int32)) 0 0 0 0) 58 9 ((ndAdd (y_si (y_si (y_si (y_si (y_si (y_si (y_si (y_si (y_si (y_si (y_si (y_si m 58 0 (0 : Int32)) 58 3 (0 : Int32)) 58 4 ((-1) : Int32)) 58 5 (0 : Int32)) 58 8 (0 : Int32)) 58 12 (0 : Int32)) 58 21 (0 : Int32)) 58 22 (0 : Int32)) 58 23 (0 : Int32)) 58 30 (0 : Int32)) 58 29 (0 : Int32)) 58 61 (0 : Int32)) 0 0 0 0).1 58 8)) 58 8 ((ndAdd (y_si (y_si (y_si (y_si (y_si (y_si (y_si (y_si (y_si (y_si (y_si (y_si m 58 0 (0 : Int32)) 58 3 (0 : Int32)) 58 4 ((-1) : Int32)) 58 5 (0 : Int32)) 58 8 (0 : Int32)) 58 12 (0 : Int32)) 58 21 (0 : Int32)) 58 22 (0 : Int32)) 58 23 (0 : Int32)) 58 30 (0 : Int32)) 58 29 (0 : Int32)) 58 61 (0 : Int32)) 0 0 0 0).1 58 5)) 0 0 ((ndAdd (y_si (y_si (y_si (y_si (y_si (y_si (y_si (y_si (y_si (y_si (y_si (y_si m 58 0 (0 : Int32)) 58 3 (0 : Int32)) 58 4 ((-1) : Int32)) 58 5 (0 : Int32)) 58 8 (0 : Int32)) 58 12 (0 : Int32)) 58 21 (0 : Int32)) 58 22 (0 : Int32)) 58 23 (0 : Int32)) 58 30 (0 : Int32)) 58 29 (0 : Int32)) 58 61 (0 : Int32)) 0 0 0 0).1 58 2)).1 63 0)) _
    refine y_zne (t := 89) rfl rfl rfl (fun h81 => ?_) (fun h81 => ?_)
    · refine y_st rfl rfl rfl rfl rfl (fun _ _ => rfl) ?_
      refine y_gf rfl rfl rfl rfl rfl ?_
      show yP (xg xs) (d + 4) 269 93 [(1, .int (nI 0)), (0, .ref 58)] [.int ((y_si (y_si (tkn (y_si (y_si (ndAdd (y_si (y_si (y_si (y_si (y_si (y_si (y_si (y_si (y_si (y_si (y_si (y_si m 58 0 (0 : Int32)) 58 3 (0 : Int32)) 58 4 ((-1) : Int32)) 58 5 (0 : Int32)) 58 8 (0 : Int32)) 58 12 (0 : Int32)) 58 21 (0 : Int32)) 58 22 (0 : Int32)) 58 23 (0 : Int32)) 58 30 (0 : Int32)) 58 29 (0 : Int32)) 58 61 (0 : Int32)) 0 0 0 0) 58 9 ((ndAdd (y_si (y_si (y_si (y_si (y_si (y_si (y_si (y_si (y_si (y_si (y_si (y_si m 58 0 (0 : Int32)) 58 3 (0 : Int32)) 58 4 ((-1) : Int32)) 58 5 (0 : Int32)) 58 8 (0 : Int32)) 58 12 (0 : Int32)) 58 21 (0 : Int32)) 58 22 (0 : Int32)) 58 23 (0 : Int32)) 58 30 (0 : Int32)) 58 29 (0 : Int32)) 58 61 (0 : Int32)) 0 0 0 0).1 58 8)) 58 8 ((ndAdd (y_si (y_si (y_si (y_si (y_si (y_si (y_si (y_si (y_si (y_si (y_si (y_si m 58 0 (0 : Int32)) 58 3 (0 : Int32)) 58 4 ((-1) : Int32)) 58 5 (0 : Int32)) 58 8 (0 : Int32)) 58 12 (0 : Int32)) 58 21 (0 : Int32)) 58 22 (0 : Int32)) 58 23 (0 : Int32)) 58 30 (0 : Int32)) 58 29 (0 : Int32)) 58 61 (0 : Int32)) 0 0 0 0).1 58 5)) 0 0 ((ndAdd (y_si (y_si (y_si (y_si (y_si (y_si (y_si (y_si (y_si (y_si (y_si (y_si m 58 0 (0 : Int32)) 58 3 (0 : Int32)) 58 4 ((-1) : Int32)) 58 5 (0 : Int32)) 58 8 (0 : Int32)) 58 12 (0 : Int32)) 58 21 (0 : Int32)) 58 22 (0 : Int32)) 58 23 (0 : Int32)) 58 30 (0 : Int32)) 58 29 (0 : Int32)) 58 61 (0 : Int32)) 0 0 0 0).1 58 2)) 58 3 10) 58 4 ((tkn (y_si (y_si (ndAdd (y_si (y_si (y_si (y_si (y_si (y_si (y_si (y_si (y_si (y_si (y_si (y_si m 58 0 (0 : Int32)) 58 3 (0 : Int32)) 58 4 ((-1) : Int32)) 58 5 (0 : Int32)) 58 8 (0 : Int32)) 58 12 (0 : Int32)) 58 21 (0 : Int32)) 58 22 (0 : Int32)) 58 23 (0 : Int32)) 58 30 (0 : Int32)) 58 29 (0 : Int32)) 58 61 (0 : Int32)) 0 0 0 0) 58 9 ((ndAdd (y_si (y_si (y_si (y_si (y_si (y_si (y_si (y_si (y_si (y_si (y_si (y_si m 58 0 (0 : Int32)) 58 3 (0 : Int32)) 58 4 ((-1) : Int32)) 58 5 (0 : Int32)) 58 8 (0 : Int32)) 58 12 (0 : Int32)) 58 21 (0 : Int32)) 58 22 (0 : Int32)) 58 23 (0 : Int32)) 58 30 (0 : Int32)) 58 29 (0 : Int32)) 58 61 (0 : Int32)) 0 0 0 0).1 58 8)) 58 8 ((ndAdd (y_si (y_si (y_si (y_si (y_si (y_si (y_si (y_si (y_si (y_si (y_si (y_si m 58 0 (0 : Int32)) 58 3 (0 : Int32)) 58 4 ((-1) : Int32)) 58 5 (0 : Int32)) 58 8 (0 : Int32)) 58 12 (0 : Int32)) 58 21 (0 : Int32)) 58 22 (0 : Int32)) 58 23 (0 : Int32)) 58 30 (0 : Int32)) 58 29 (0 : Int32)) 58 61 (0 : Int32)) 0 0 0 0).1 58 5)) 0 0 ((ndAdd (y_si (y_si (y_si (y_si (y_si (y_si (y_si (y_si (y_si (y_si (y_si (y_si m 58 0 (0 : Int32)) 58 3 (0 : Int32)) 58 4 ((-1) : Int32)) 58 5 (0 : Int32)) 58 8 (0 : Int32)) 58 12 (0 : Int32)) 58 21 (0 : Int32)) 58 22 (0 : Int32)) 58 23 (0 : Int32)) 58 30 (0 : Int32)) 58 29 (0 : Int32)) 58 61 (0 : Int32)) 0 0 0 0).1 58 2)).1 63 0)).1 58 3)] (y_si (y_si (tkn (y_si (y_si (ndAdd (y_si (y_si (y_si (y_si (y_si (y_si (y_si (y_si (y_si (y_si (y_si (y_si m 58 0 (0 : Int32)) 58 3 (0 : Int32)) 58 4 ((-1) : Int32)) 58 5 (0 : Int32)) 58 8 (0 : Int32)) 58 12 (0 : Int32)) 58 21 (0 : Int32)) 58 22 (0 : Int32)) 58 23 (0 : Int32)) 58 30 (0 : Int32)) 58 29 (0 : Int32)) 58 61 (0 : Int32)) 0 0 0 0) 58 9 ((ndAdd (y_si (y_si (y_si (y_si (y_si (y_si (y_si (y_si (y_si (y_si (y_si (y_si m 58 0 (0 : Int32)) 58 3 (0 : Int32)) 58 4 ((-1) : Int32)) 58 5 (0 : Int32)) 58 8 (0 : Int32)) 58 12 (0 : Int32)) 58 21 (0 : Int32)) 58 22 (0 : Int32)) 58 23 (0 : Int32)) 58 30 (0 : Int32)) 58 29 (0 : Int32)) 58 61 (0 : Int32)) 0 0 0 0).1 58 8)) 58 8 ((ndAdd (y_si (y_si (y_si (y_si (y_si (y_si (y_si (y_si (y_si (y_si (y_si (y_si m 58 0 (0 : Int32)) 58 3 (0 : Int32)) 58 4 ((-1) : Int32)) 58 5 (0 : Int32)) 58 8 (0 : Int32)) 58 12 (0 : Int32)) 58 21 (0 : Int32)) 58 22 (0 : Int32)) 58 23 (0 : Int32)) 58 30 (0 : Int32)) 58 29 (0 : Int32)) 58 61 (0 : Int32)) 0 0 0 0).1 58 5)) 0 0 ((ndAdd (y_si (y_si (y_si (y_si (y_si (y_si (y_si (y_si (y_si (y_si (y_si (y_si m 58 0 (0 : Int32)) 58 3 (0 : Int32)) 58 4 ((-1) : Int32)) 58 5 (0 : Int32)) 58 8 (0 : Int32)) 58 12 (0 : Int32)) 58 21 (0 : Int32)) 58 22 (0 : Int32)) 58 23 (0 : Int32)) 58 30 (0 : Int32)) 58 29 (0 : Int32)) 58 61 (0 : Int32)) 0 0 0 0).1 58 2)) 58 3 10) 58 4 ((tkn (y_si (y_si (ndAdd (y_si (y_si (y_si (y_si (y_si (y_si (y_si (y_si (y_si (y_si (y_si (y_si m 58 0 (0 : Int32)) 58 3 (0 : Int32)) 58 4 ((-1) : Int32)) 58 5 (0 : Int32)) 58 8 (0 : Int32)) 58 12 (0 : Int32)) 58 21 (0 : Int32)) 58 22 (0 : Int32)) 58 23 (0 : Int32)) 58 30 (0 : Int32)) 58 29 (0 : Int32)) 58 61 (0 : Int32)) 0 0 0 0) 58 9 ((ndAdd (y_si (y_si (y_si (y_si (y_si (y_si (y_si (y_si (y_si (y_si (y_si (y_si m 58 0 (0 : Int32)) 58 3 (0 : Int32)) 58 4 ((-1) : Int32)) 58 5 (0 : Int32)) 58 8 (0 : Int32)) 58 12 (0 : Int32)) 58 21 (0 : Int32)) 58 22 (0 : Int32)) 58 23 (0 : Int32)) 58 30 (0 : Int32)) 58 29 (0 : Int32)) 58 61 (0 : Int32)) 0 0 0 0).1 58 8)) 58 8 ((ndAdd (y_si (y_si (y_si (y_si (y_si (y_si (y_si (y_si (y_si (y_si (y_si (y_si m 58 0 (0 : Int32)) 58 3 (0 : Int32)) 58 4 ((-1) : Int32)) 58 5 (0 : Int32)) 58 8 (0 : Int32)) 58 12 (0 : Int32)) 58 21 (0 : Int32)) 58 22 (0 : Int32)) 58 23 (0 : Int32)) 58 30 (0 : Int32)) 58 29 (0 : Int32)) 58 61 (0 : Int32)) 0 0 0 0).1 58 5)) 0 0 ((ndAdd (y_si (y_si (y_si (y_si (y_si (y_si (y_si (y_si (y_si (y_si (y_si (y_si m 58 0 (0 : Int32)) 58 3 (0 : Int32)) 58 4 ((-1) : Int32)) 58 5 (0 : Int32)) 58 8 (0 : Int32)) 58 12 (0 : Int32)) 58 21 (0 : Int32)) 58 22 (0 : Int32)) 58 23 (0 : Int32)) 58 30 (0 : Int32)) 58 29 (0 : Int32)) 58 61 (0 : Int32)) 0 0 0 0).1 58 2)).1 63 0)) _
      refine y_zle (t := 101) rfl rfl rfl (fun h93 => ?_) (fun h93 => ?_)
      · exact absurd h93 (by simp [tkn, ndAdd, y_si_at])
      · refine y_st rfl rfl rfl rfl rfl (fun _ _ => rfl) ?_
        refine y_gf rfl rfl rfl rfl rfl ?_
        show yP (xg xs) (d + 4) 269 100 [(1, .int (nI 0)), (0, .ref 58)] [.int ((y_si (y_si (tkn (y_si (y_si (ndAdd (y_si (y_si (y_si (y_si (y_si (y_si (y_si (y_si (y_si (y_si (y_si (y_si m 58 0 (0 : Int32)) 58 3 (0 : Int32)) 58 4 ((-1) : Int32)) 58 5 (0 : Int32)) 58 8 (0 : Int32)) 58 12 (0 : Int32)) 58 21 (0 : Int32)) 58 22 (0 : Int32)) 58 23 (0 : Int32)) 58 30 (0 : Int32)) 58 29 (0 : Int32)) 58 61 (0 : Int32)) 0 0 0 0) 58 9 ((ndAdd (y_si (y_si (y_si (y_si (y_si (y_si (y_si (y_si (y_si (y_si (y_si (y_si m 58 0 (0 : Int32)) 58 3 (0 : Int32)) 58 4 ((-1) : Int32)) 58 5 (0 : Int32)) 58 8 (0 : Int32)) 58 12 (0 : Int32)) 58 21 (0 : Int32)) 58 22 (0 : Int32)) 58 23 (0 : Int32)) 58 30 (0 : Int32)) 58 29 (0 : Int32)) 58 61 (0 : Int32)) 0 0 0 0).1 58 8)) 58 8 ((ndAdd (y_si (y_si (y_si (y_si (y_si (y_si (y_si (y_si (y_si (y_si (y_si (y_si m 58 0 (0 : Int32)) 58 3 (0 : Int32)) 58 4 ((-1) : Int32)) 58 5 (0 : Int32)) 58 8 (0 : Int32)) 58 12 (0 : Int32)) 58 21 (0 : Int32)) 58 22 (0 : Int32)) 58 23 (0 : Int32)) 58 30 (0 : Int32)) 58 29 (0 : Int32)) 58 61 (0 : Int32)) 0 0 0 0).1 58 5)) 0 0 ((ndAdd (y_si (y_si (y_si (y_si (y_si (y_si (y_si (y_si (y_si (y_si (y_si (y_si m 58 0 (0 : Int32)) 58 3 (0 : Int32)) 58 4 ((-1) : Int32)) 58 5 (0 : Int32)) 58 8 (0 : Int32)) 58 12 (0 : Int32)) 58 21 (0 : Int32)) 58 22 (0 : Int32)) 58 23 (0 : Int32)) 58 30 (0 : Int32)) 58 29 (0 : Int32)) 58 61 (0 : Int32)) 0 0 0 0).1 58 2)) 58 3 10) 58 4 ((tkn (y_si (y_si (ndAdd (y_si (y_si (y_si (y_si (y_si (y_si (y_si (y_si (y_si (y_si (y_si (y_si m 58 0 (0 : Int32)) 58 3 (0 : Int32)) 58 4 ((-1) : Int32)) 58 5 (0 : Int32)) 58 8 (0 : Int32)) 58 12 (0 : Int32)) 58 21 (0 : Int32)) 58 22 (0 : Int32)) 58 23 (0 : Int32)) 58 30 (0 : Int32)) 58 29 (0 : Int32)) 58 61 (0 : Int32)) 0 0 0 0) 58 9 ((ndAdd (y_si (y_si (y_si (y_si (y_si (y_si (y_si (y_si (y_si (y_si (y_si (y_si m 58 0 (0 : Int32)) 58 3 (0 : Int32)) 58 4 ((-1) : Int32)) 58 5 (0 : Int32)) 58 8 (0 : Int32)) 58 12 (0 : Int32)) 58 21 (0 : Int32)) 58 22 (0 : Int32)) 58 23 (0 : Int32)) 58 30 (0 : Int32)) 58 29 (0 : Int32)) 58 61 (0 : Int32)) 0 0 0 0).1 58 8)) 58 8 ((ndAdd (y_si (y_si (y_si (y_si (y_si (y_si (y_si (y_si (y_si (y_si (y_si (y_si m 58 0 (0 : Int32)) 58 3 (0 : Int32)) 58 4 ((-1) : Int32)) 58 5 (0 : Int32)) 58 8 (0 : Int32)) 58 12 (0 : Int32)) 58 21 (0 : Int32)) 58 22 (0 : Int32)) 58 23 (0 : Int32)) 58 30 (0 : Int32)) 58 29 (0 : Int32)) 58 61 (0 : Int32)) 0 0 0 0).1 58 5)) 0 0 ((ndAdd (y_si (y_si (y_si (y_si (y_si (y_si (y_si (y_si (y_si (y_si (y_si (y_si m 58 0 (0 : Int32)) 58 3 (0 : Int32)) 58 4 ((-1) : Int32)) 58 5 (0 : Int32)) 58 8 (0 : Int32)) 58 12 (0 : Int32)) 58 21 (0 : Int32)) 58 22 (0 : Int32)) 58 23 (0 : Int32)) 58 30 (0 : Int32)) 58 29 (0 : Int32)) 58 61 (0 : Int32)) 0 0 0 0).1 58 2)).1 63 0)).1 58 3)] (y_si (y_si (tkn (y_si (y_si (ndAdd (y_si (y_si (y_si (y_si (y_si (y_si (y_si (y_si (y_si (y_si (y_si (y_si m 58 0 (0 : Int32)) 58 3 (0 : Int32)) 58 4 ((-1) : Int32)) 58 5 (0 : Int32)) 58 8 (0 : Int32)) 58 12 (0 : Int32)) 58 21 (0 : Int32)) 58 22 (0 : Int32)) 58 23 (0 : Int32)) 58 30 (0 : Int32)) 58 29 (0 : Int32)) 58 61 (0 : Int32)) 0 0 0 0) 58 9 ((ndAdd (y_si (y_si (y_si (y_si (y_si (y_si (y_si (y_si (y_si (y_si (y_si (y_si m 58 0 (0 : Int32)) 58 3 (0 : Int32)) 58 4 ((-1) : Int32)) 58 5 (0 : Int32)) 58 8 (0 : Int32)) 58 12 (0 : Int32)) 58 21 (0 : Int32)) 58 22 (0 : Int32)) 58 23 (0 : Int32)) 58 30 (0 : Int32)) 58 29 (0 : Int32)) 58 61 (0 : Int32)) 0 0 0 0).1 58 8)) 58 8 ((ndAdd (y_si (y_si (y_si (y_si (y_si (y_si (y_si (y_si (y_si (y_si (y_si (y_si m 58 0 (0 : Int32)) 58 3 (0 : Int32)) 58 4 ((-1) : Int32)) 58 5 (0 : Int32)) 58 8 (0 : Int32)) 58 12 (0 : Int32)) 58 21 (0 : Int32)) 58 22 (0 : Int32)) 58 23 (0 : Int32)) 58 30 (0 : Int32)) 58 29 (0 : Int32)) 58 61 (0 : Int32)) 0 0 0 0).1 58 5)) 0 0 ((ndAdd (y_si (y_si (y_si (y_si (y_si (y_si (y_si (y_si (y_si (y_si (y_si (y_si m 58 0 (0 : Int32)) 58 3 (0 : Int32)) 58 4 ((-1) : Int32)) 58 5 (0 : Int32)) 58 8 (0 : Int32)) 58 12 (0 : Int32)) 58 21 (0 : Int32)) 58 22 (0 : Int32)) 58 23 (0 : Int32)) 58 30 (0 : Int32)) 58 29 (0 : Int32)) 58 61 (0 : Int32)) 0 0 0 0).1 58 2)) 58 3 10) 58 4 ((tkn (y_si (y_si (ndAdd (y_si (y_si (y_si (y_si (y_si (y_si (y_si (y_si (y_si (y_si (y_si (y_si m 58 0 (0 : Int32)) 58 3 (0 : Int32)) 58 4 ((-1) : Int32)) 58 5 (0 : Int32)) 58 8 (0 : Int32)) 58 12 (0 : Int32)) 58 21 (0 : Int32)) 58 22 (0 : Int32)) 58 23 (0 : Int32)) 58 30 (0 : Int32)) 58 29 (0 : Int32)) 58 61 (0 : Int32)) 0 0 0 0) 58 9 ((ndAdd (y_si (y_si (y_si (y_si (y_si (y_si (y_si (y_si (y_si (y_si (y_si (y_si m 58 0 (0 : Int32)) 58 3 (0 : Int32)) 58 4 ((-1) : Int32)) 58 5 (0 : Int32)) 58 8 (0 : Int32)) 58 12 (0 : Int32)) 58 21 (0 : Int32)) 58 22 (0 : Int32)) 58 23 (0 : Int32)) 58 30 (0 : Int32)) 58 29 (0 : Int32)) 58 61 (0 : Int32)) 0 0 0 0).1 58 8)) 58 8 ((ndAdd (y_si (y_si (y_si (y_si (y_si (y_si (y_si (y_si (y_si (y_si (y_si (y_si m 58 0 (0 : Int32)) 58 3 (0 : Int32)) 58 4 ((-1) : Int32)) 58 5 (0 : Int32)) 58 8 (0 : Int32)) 58 12 (0 : Int32)) 58 21 (0 : Int32)) 58 22 (0 : Int32)) 58 23 (0 : Int32)) 58 30 (0 : Int32)) 58 29 (0 : Int32)) 58 61 (0 : Int32)) 0 0 0 0).1 58 5)) 0 0 ((ndAdd (y_si (y_si (y_si (y_si (y_si (y_si (y_si (y_si (y_si (y_si (y_si (y_si m 58 0 (0 : Int32)) 58 3 (0 : Int32)) 58 4 ((-1) : Int32)) 58 5 (0 : Int32)) 58 8 (0 : Int32)) 58 12 (0 : Int32)) 58 21 (0 : Int32)) 58 22 (0 : Int32)) 58 23 (0 : Int32)) 58 30 (0 : Int32)) 58 29 (0 : Int32)) 58 61 (0 : Int32)) 0 0 0 0).1 58 2)).1 63 0)) _
        exact y_iret rfl rfl rfl (congrArg (fun z => some (Value.int z)) (by simp [tkn, ndAdd, y_si_at]))
    · exact absurd h81 (by simp [tkn, ndAdd, y_si_at])
