/-! TOKENS, TREE, RULES: first methods; make on the empty text; laid by wip/gen/small13.py -/
/-- the byte at i of the text that is scanned, or -1 -/
def by_ (m : yM) (i : Int32) : Int32 := if 0 ≤ i ∧ i < m.1 8 5 then m.1 1 i.toNatClampNeg &&& 255 else -1
def tkAdd (m : yM) (k : Nat) (a b c : Int32) : yM := y_si (y_si (y_si (y_si m 9 k a) 10 k b) 11 k c) 8 6 (nI (k + 1))
def trAdd (m : yM) (k : Nat) (a b c : Int32) : yM := y_si (y_si (y_si (y_si (y_si (y_si m 3 k a) 4 k b) 5 k c) 6 k 0) 7 k (nI (k + 1))) 2 5 (nI (k + 1))
/-- the reference's cells are kept -/
def Kx (m m' : yM) : Prop := ∀ a, 57 < a → m'.1 a = m.1 a
theorem Kx.rf (m : yM) : Kx m m := fun _ _ => rfl
theorem Kx.tr {a b c : yM} (h : Kx a b) (h2 : Kx b c) : Kx a c := fun q z => (h2 q z).trans (h q z)
theorem Kx.si {m m' : yM} {k i : Nat} {v : Int32} (h : Kx m m') (hk : k ≤ 57) : Kx m (y_si m' k i v) := fun a z => (y_si_cell m' i v (by omega)).trans (h a z)
theorem Kx.fill {m m' : yM} {k n : Nat} {v : Int32} (h : Kx m m') (hk : k ≤ 57) : Kx m (y_fill m' k n v) := fun a z => (y_fill_o m' k n a v (by omega)).trans (h a z)
theorem Kx.trA {m m' : yM} {k : Nat} {a b c : Int32} (h : Kx m m') : Kx m (trAdd m' k a b c) := (((((h.si (by decide)).si (by decide)).si (by decide)).si (by decide)).si (by decide)).si (by decide)
theorem Kn.kx {m m' : yM} (h : Kn m m') : Kx m m' := fun a z => h.1 a (by omega)
set_option maxRecDepth 20000 in
/-- Tokens.byteAt -/
theorem c36 (xs : List Int32) (d : Nat) (m : yM) (i : Int32) (ht : ¬ m.1 8 4 = 0) (hb : (m.1 8 5).toInt ≤ 8192) : yC (xg xs) d 36 [.ref 8, .int i] m (fun r m' => r = some (.int (by_ m i)) ∧ m' = m) := by
  refine y_st rfl rfl rfl rfl rfl (fun _ _ => rfl) ?_
  show yP (xg xs) d 36 1 [(0, .ref 8), (1, .int i)] [.int i] m _
  refine y_zlt (t := 25) rfl rfl rfl (fun h1 => ?_) (fun h1 => ?_)
  · refine y_st rfl rfl rfl rfl rfl (fun _ _ => rfl) ?_
    show yP (xg xs) d 36 26 [(0, .ref 8), (1, .int i)] [.int ((-1) : Int32)] m _
    exact y_iret rfl rfl rfl (by refine ⟨congrArg (fun z => some (Value.int z)) ?_, rfl⟩; unfold by_; grind)
  · refine y_st rfl rfl rfl rfl rfl (fun _ _ => rfl) ?_
    refine y_st rfl rfl rfl rfl rfl (fun _ _ => rfl) ?_
    refine y_gf rfl rfl rfl rfl rfl ?_
    show yP (xg xs) d 36 9 [(0, .ref 8), (1, .int i)] [.int (m.1 8 5), .int i] m _
    refine y_ige (t := 25) rfl rfl rfl (fun h9 => ?_) (fun h9 => ?_)
    · refine y_st rfl rfl rfl rfl rfl (fun _ _ => rfl) ?_
      show yP (xg xs) d 36 26 [(0, .ref 8), (1, .int i)] [.int ((-1) : Int32)] m _
      exact y_iret rfl rfl rfl (by refine ⟨congrArg (fun z => some (Value.int z)) ?_, rfl⟩; unfold by_; grind)
    · refine y_st rfl rfl rfl rfl rfl (fun _ _ => rfl) ?_
      refine y_gf rfl rfl rfl rfl rfl ?_
      rw [show y_v _ 8 _ (.retAddr 1) = .ref 1 from if_neg (ht)]
      refine y_st rfl rfl rfl rfl rfl (fun _ _ => rfl) ?_
      show yP (xg xs) d 36 17 [(0, .ref 8), (1, .int i)] [.int i, .ref 1] m _
      refine y_bald rfl rfl rfl (by decide) (x_in_lt (Int32.not_lt.mp h1) (Int32.not_le.mp h9) hb) ?_
      refine y_st rfl rfl rfl rfl rfl (fun _ _ => rfl) ?_
      refine y_st rfl rfl rfl rfl rfl (fun _ _ => rfl) ?_
      refine y_st rfl rfl rfl rfl rfl (fun _ _ => rfl) ?_
      show yP (xg xs) d 36 26 [(0, .ref 8), (1, .int i)] [.int ((m.1 1 i.toNatClampNeg) &&& (255 : Int32))] m _
      exact y_iret rfl rfl rfl (by refine ⟨congrArg (fun z => some (Value.int z)) ?_, rfl⟩; unfold by_; grind)
set_option maxRecDepth 20000 in
/-- Tokens.add -/
theorem c39 (xs : List Int32) (d : Nat) (m : yM) (a b c : Int32) (k : Nat) (hk : m.1 8 6 = nI k) (h : k ≤ 8192) : yC (xg xs) d 39 [.ref 8, .int a, .int b, .int c] m (fun r m' => r = none ∧ m' = tkAdd m k a b c) := by
  have eK : (nI k).toNatClampNeg = k := nI_clamp (by omega)
  refine y_st rfl rfl rfl rfl rfl (fun _ _ => rfl) ?_
  refine y_gf rfl rfl rfl rfl rfl ?_
  refine y_st rfl rfl rfl rfl rfl (fun _ _ => rfl) ?_
  show yP (xg xs) d 39 7 [(0, .ref 8), (1, .int a), (2, .int b), (3, .int c)] [.int (8192 : Int32), .int (m.1 8 6)] m _
  refine y_igt (t := 50) rfl rfl rfl (fun h7 => ?_) (fun h7 => ?_)
  · exact absurd h7 (by rw [hk]; exact nI_nlt (a := 8192) h (by decide))
  · refine y_st rfl rfl rfl rfl rfl (fun _ _ => rfl) ?_
    refine y_gf rfl rfl rfl rfl rfl ?_
    refine y_st rfl rfl rfl rfl rfl (fun _ _ => rfl) ?_
    refine y_gf rfl rfl rfl rfl rfl ?_
    refine y_st rfl rfl rfl rfl rfl (fun _ _ => rfl) ?_
    show yP (xg xs) d 39 19 [(0, .ref 8), (1, .int a), (2, .int b), (3, .int c)] [.int a, .int (m.1 8 6), .ref 9] m _
    refine y_iast rfl rfl rfl (by rw [hk]; exact x_in_nI (by omega) (by decide)) ?_
    refine y_st rfl rfl rfl rfl rfl (fun _ _ => rfl) ?_
    refine y_gf rfl rfl rfl rfl rfl ?_
    refine y_st rfl rfl rfl rfl rfl (fun _ _ => rfl) ?_
    refine y_gf rfl rfl rfl rfl rfl ?_
    refine y_st rfl rfl rfl rfl rfl (fun _ _ => rfl) ?_
    show yP (xg xs) d 39 29 [(0, .ref 8), (1, .int a), (2, .int b), (3, .int c)] [.int b, .int (m.1 8 6), .ref 10] (y_si m 9 ((m.1 8 6).toNatClampNeg) a) _
    refine y_iast rfl rfl rfl (by rw [hk]; exact x_in_nI (by omega) (by decide)) ?_
    refine y_st rfl rfl rfl rfl rfl (fun _ _ => rfl) ?_
    refine y_gf rfl rfl rfl rfl rfl ?_
    refine y_st rfl rfl rfl rfl rfl (fun _ _ => rfl) ?_
    refine y_gf rfl rfl rfl rfl rfl ?_
    refine y_st rfl rfl rfl rfl rfl (fun _ _ => rfl) ?_
    show yP (xg xs) d 39 39 [(0, .ref 8), (1, .int a), (2, .int b), (3, .int c)] [.int c, .int (m.1 8 6), .ref 11] (y_si (y_si m 9 ((m.1 8 6).toNatClampNeg) a) 10 ((m.1 8 6).toNatClampNeg) b) _
    refine y_iast rfl rfl rfl (by rw [hk]; exact x_in_nI (by omega) (by decide)) ?_
    refine y_st rfl rfl rfl rfl rfl (fun _ _ => rfl) ?_
    refine y_st rfl rfl rfl rfl rfl (fun _ _ => rfl) ?_
    refine y_gf rfl rfl rfl rfl rfl ?_
    refine y_st rfl rfl rfl rfl rfl (fun _ _ => rfl) ?_
    refine y_st rfl rfl rfl rfl rfl (fun _ _ => rfl) ?_
    refine y_pfi rfl rfl rfl rfl rfl (x_fit_i _) ?_
    show yP (xg xs) d 39 50 [(0, .ref 8), (1, .int a), (2, .int b), (3, .int c)] [] (y_si (y_si (y_si (y_si m 9 ((m.1 8 6).toNatClampNeg) a) 10 ((m.1 8 6).toNatClampNeg) b) 11 ((m.1 8 6).toNatClampNeg) c) 8 6 ((m.1 8 6) + (1 : Int32))) _
    show yP (xg xs) d 39 50 [(0, .ref 8), (1, .int a), (2, .int b), (3, .int c)] [] (y_si (y_si (y_si (y_si m 9 ((m.1 8 6).toNatClampNeg) a) 10 ((m.1 8 6).toNatClampNeg) b) 11 ((m.1 8 6).toNatClampNeg) c) 8 6 ((m.1 8 6) + (1 : Int32))) _
    exact y_ret rfl rfl rfl rfl (by refine ⟨rfl, ?_⟩; simp only [hk, nI_1, eK]; rfl)
set_option maxRecDepth 20000 in
/-- Tokens.behindBlanks at the end -/
theorem c35e (xs : List Int32) (d : Nat) (m : yM) (a : Int32) (ht : ¬ m.1 8 4 = 0) (hB : (m.1 8 5).toInt ≤ 8192) (hb : by_ m a = -1) : yC (xg xs) (d + 1) 35 [.ref 8, .int a] m (fun r m' => r = some (.int a) ∧ m' = m) := by
  refine y_st rfl rfl rfl rfl rfl (fun _ _ => rfl) ?_
  refine y_st rfl rfl rfl rfl rfl (fun _ _ => rfl) ?_
  refine y_st rfl rfl rfl rfl rfl (fun _ _ => rfl) ?_
  refine y_st rfl rfl rfl rfl rfl (fun _ _ => rfl) ?_
  refine y_st rfl rfl rfl rfl rfl (fun _ _ => rfl) ?_
  refine y_st rfl rfl rfl rfl rfl (fun _ _ => rfl) ?_
  show yP (xg xs) (d + 1) 35 8 [(3, .int (0 : Int32)), (2, .int a), (0, .ref 8), (1, .int a)] [.int (8192 : Int32), .int (0 : Int32)] m _
  refine y_ige (t := 107) rfl rfl rfl (fun h8 => ?_) (fun h8 => ?_)
  · exact absurd h8 (by decide)
  · refine y_st rfl rfl rfl rfl rfl (fun _ _ => rfl) ?_
    refine y_st rfl rfl rfl rfl rfl (fun _ _ => rfl) ?_
    show yP (xg xs) (d + 1) 35 13 [(3, .int (0 : Int32)), (2, .int a), (0, .ref 8), (1, .int a)] [.int a, .ref 8] m _
    refine y_call rfl rfl rfl rfl rfl (Nat.le_of_ble_eq_true rfl) (Nat.le_of_ble_eq_true rfl) rfl (by decide) (c36 xs d m a ht hB) (fun v1 m1 q1 => ?_)
    obtain ⟨rfl, e1⟩ := q1; rw [e1]; clear e1
    refine y_st rfl rfl rfl rfl rfl (fun _ _ => rfl) ?_
    refine y_st rfl rfl rfl rfl rfl (fun _ _ => rfl) ?_
    refine y_st rfl rfl rfl rfl rfl (fun _ _ => rfl) ?_
    show yP (xg xs) (d + 1) 35 22 [(4, .int (by_ m a)), (3, .int (0 : Int32)), (2, .int a), (0, .ref 8), (1, .int a)] [.int (9 : Int32), .int (by_ m a)] m _
    refine y_ieq (t := 46) rfl rfl rfl (fun h22 => ?_) (fun h22 => ?_)
    · exact absurd h22 (by rw [hb]; decide)
    · refine y_st rfl rfl rfl rfl rfl (fun _ _ => rfl) ?_
      refine y_st rfl rfl rfl rfl rfl (fun _ _ => rfl) ?_
      show yP (xg xs) (d + 1) 35 29 [(4, .int (by_ m a)), (3, .int (0 : Int32)), (2, .int a), (0, .ref 8), (1, .int a)] [.int (10 : Int32), .int (by_ m a)] m _
      refine y_ieq (t := 46) rfl rfl rfl (fun h29 => ?_) (fun h29 => ?_)
      · exact absurd h29 (by rw [hb]; decide)
      · refine y_st rfl rfl rfl rfl rfl (fun _ _ => rfl) ?_
        refine y_st rfl rfl rfl rfl rfl (fun _ _ => rfl) ?_
        show yP (xg xs) (d + 1) 35 36 [(4, .int (by_ m a)), (3, .int (0 : Int32)), (2, .int a), (0, .ref 8), (1, .int a)] [.int (13 : Int32), .int (by_ m a)] m _
        refine y_ieq (t := 46) rfl rfl rfl (fun h36 => ?_) (fun h36 => ?_)
        · exact absurd h36 (by rw [hb]; decide)
        · refine y_st rfl rfl rfl rfl rfl (fun _ _ => rfl) ?_
          refine y_st rfl rfl rfl rfl rfl (fun _ _ => rfl) ?_
          show yP (xg xs) (d + 1) 35 43 [(4, .int (by_ m a)), (3, .int (0 : Int32)), (2, .int a), (0, .ref 8), (1, .int a)] [.int (32 : Int32), .int (by_ m a)] m _
          refine y_ine (t := 52) rfl rfl rfl (fun h43 => ?_) (fun h43 => ?_)
          · refine y_st rfl rfl rfl rfl rfl (fun _ _ => rfl) ?_
            refine y_st rfl rfl rfl rfl rfl (fun _ _ => rfl) ?_
            show yP (xg xs) (d + 1) 35 56 [(4, .int (by_ m a)), (3, .int (0 : Int32)), (2, .int a), (0, .ref 8), (1, .int a)] [.int (40 : Int32), .int (by_ m a)] m _
            refine y_ine (t := 99) rfl rfl rfl (fun h56 => ?_) (fun h56 => ?_)
            · refine y_st rfl rfl rfl rfl rfl (fun _ _ => rfl) ?_
              show yP (xg xs) (d + 1) 35 100 [(4, .int (by_ m a)), (3, .int (0 : Int32)), (2, .int a), (0, .ref 8), (1, .int a)] [.int a] m _
              exact y_iret rfl rfl rfl (⟨rfl, rfl⟩)
            · exact absurd h56 (by rw [hb]; decide)
          · exact absurd h43 (by rw [hb]; decide)
set_option maxRecDepth 20000 in
/-- Tokens.behindToken at the end -/
theorem c40e (xs : List Int32) (d : Nat) (m : yM) (a : Int32) (ht : ¬ m.1 8 4 = 0) (hB : (m.1 8 5).toInt ≤ 8192) (hb : by_ m a = -1) (k : Nat) (hk : m.1 8 6 = nI k) (hk2 : k ≤ 8192) : yC (xg xs) (d + 1) 40 [.ref 8, .int a] m (fun r m' => r = some (.int a) ∧ m' = y_si (tkAdd m k 67 (m.1 8 5) 0) 8 8 1) := by
  refine y_st rfl rfl rfl rfl rfl (fun _ _ => rfl) ?_
  refine y_st rfl rfl rfl rfl rfl (fun _ _ => rfl) ?_
  show yP (xg xs) (d + 1) 40 2 [(0, .ref 8), (1, .int a)] [.int a, .ref 8] m _
  refine y_call rfl rfl rfl rfl rfl (Nat.le_of_ble_eq_true rfl) (Nat.le_of_ble_eq_true rfl) rfl (by decide) (c36 xs d m a ht hB) (fun v1 m1 q1 => ?_)
  obtain ⟨rfl, e1⟩ := q1; rw [e1]; clear e1
  refine y_st rfl rfl rfl rfl rfl (fun _ _ => rfl) ?_
  refine y_st rfl rfl rfl rfl rfl (fun _ _ => rfl) ?_
  refine y_st rfl rfl rfl rfl rfl (fun _ _ => rfl) ?_
  show yP (xg xs) (d + 1) 40 8 [(2, .int (by_ m a)), (0, .ref 8), (1, .int a)] [.int ((-1) : Int32), .int (by_ m a)] m _
  refine y_ine (t := 29) rfl rfl rfl (fun h8 => ?_) (fun h8 => ?_)
  · exact absurd hb h8
  · refine y_st rfl rfl rfl rfl rfl (fun _ _ => rfl) ?_
    refine y_st rfl rfl rfl rfl rfl (fun _ _ => rfl) ?_
    refine y_st rfl rfl rfl rfl rfl (fun _ _ => rfl) ?_
    refine y_gf rfl rfl rfl rfl rfl ?_
    refine y_st rfl rfl rfl rfl rfl (fun _ _ => rfl) ?_
    show yP (xg xs) (d + 1) 40 19 [(2, .int (by_ m a)), (0, .ref 8), (1, .int a)] [.int (0 : Int32), .int (m.1 8 5), .int (67 : Int32), .ref 8] m _
    refine y_call rfl rfl rfl rfl rfl (Nat.le_of_ble_eq_true rfl) (Nat.le_of_ble_eq_true rfl) rfl (by decide) (c39 xs d m (67 : Int32) (m.1 8 5) (0 : Int32) k hk hk2) (fun v2 m2 q2 => ?_)
    obtain ⟨rfl, e2⟩ := q2; rw [e2]; clear e2
    refine y_st rfl rfl rfl rfl rfl (fun _ _ => rfl) ?_
    refine y_st rfl rfl rfl rfl rfl (fun _ _ => rfl) ?_
    refine y_pfi rfl rfl rfl rfl rfl (x_fit_z (by decide)) ?_
    show yP (xg xs) (d + 1) 40 27 [(2, .int (by_ m a)), (0, .ref 8), (1, .int a)] [] (y_si (tkAdd m k (67 : Int32) (m.1 8 5) (0 : Int32)) 8 8 (1 : Int32)) _
    refine y_st rfl rfl rfl rfl rfl (fun _ _ => rfl) ?_
    show yP (xg xs) (d + 1) 40 28 [(2, .int (by_ m a)), (0, .ref 8), (1, .int a)] [.int a] (y_si (tkAdd m k (67 : Int32) (m.1 8 5) (0 : Int32)) 8 8 (1 : Int32)) _
    exact y_iret rfl rfl rfl (⟨rfl, rfl⟩)
set_option maxRecDepth 20000 in
/-- Tokens.scan when it has ended -/
theorem c19B (xs : List Int32) (d : Nat) (m : yM) (t a z : Int32) (h8 : ¬ m.1 8 8 = 0) : yP (xg xs) d 19 32 [(4, .int t), (3, .int a), (0, .ref 8), (1, .ref 1), (2, .int z)] [] m (fun r m' => r = none ∧ m' = m) := by
  refine y_st rfl rfl rfl rfl rfl (fun _ _ => rfl) ?_
  refine y_st rfl rfl rfl rfl rfl (fun _ _ => rfl) ?_
  show yP (xg xs) d 19 37 [(4, .int t), (3, .int a), (0, .ref 8), (1, .ref 1), (2, .int z)] [.int (8192 : Int32), .int t] m _
  refine y_igt (t := 72) rfl rfl rfl (fun h37 => ?_) (fun h37 => ?_)
  · show yP (xg xs) d 19 72 [(4, .int t), (3, .int a), (0, .ref 8), (1, .ref 1), (2, .int z)] [] m _
    exact y_ret rfl rfl rfl rfl (⟨rfl, rfl⟩)
  · refine y_st rfl rfl rfl rfl rfl (fun _ _ => rfl) ?_
    refine y_gf rfl rfl rfl rfl rfl ?_
    show yP (xg xs) d 19 44 [(4, .int t), (3, .int a), (0, .ref 8), (1, .ref 1), (2, .int z)] [.int (m.1 8 8)] m _
    refine y_zne (t := 72) rfl rfl rfl (fun h44 => ?_) (fun h44 => ?_)
    · show yP (xg xs) d 19 72 [(4, .int t), (3, .int a), (0, .ref 8), (1, .ref 1), (2, .int z)] [] m _
      exact y_ret rfl rfl rfl rfl (⟨rfl, rfl⟩)
    · exact absurd h44 h8
set_option maxRecDepth 20000 in
/-- Tokens.scan at an empty text -/
theorem c19A (xs : List Int32) (d : Nat) (m : yM) (z : Int32) (ht : ¬ m.1 8 4 = 0) (h5 : m.1 8 5 = 0) (h6 : m.1 8 6 = 0) (h8 : m.1 8 8 = 0) : yP (xg xs) (d + 2) 19 32 [(4, .int (0 : Int32)), (3, .int (0 : Int32)), (0, .ref 8), (1, .ref 1), (2, .int z)] [] m (fun r m' => r = none ∧ m'.1 9 0 = 67 ∧ Kx m m') := by
  have hb : by_ m 0 = -1 := by unfold by_; rw [h5]; exact if_neg (fun q => absurd q.2 (by decide))
  have hB : (m.1 8 5).toInt ≤ 8192 := by rw [h5]; decide
  refine y_st rfl rfl rfl rfl rfl (fun _ _ => rfl) ?_
  refine y_st rfl rfl rfl rfl rfl (fun _ _ => rfl) ?_
  show yP (xg xs) (d + 2) 19 37 [(4, .int (0 : Int32)), (3, .int (0 : Int32)), (0, .ref 8), (1, .ref 1), (2, .int z)] [.int (8192 : Int32), .int (0 : Int32)] m _
  refine y_igt (t := 72) rfl rfl rfl (fun h37 => ?_) (fun h37 => ?_)
  · exact absurd h37 (by decide)
  · refine y_st rfl rfl rfl rfl rfl (fun _ _ => rfl) ?_
    refine y_gf rfl rfl rfl rfl rfl ?_
    show yP (xg xs) (d + 2) 19 44 [(4, .int (0 : Int32)), (3, .int (0 : Int32)), (0, .ref 8), (1, .ref 1), (2, .int z)] [.int (m.1 8 8)] m _
    refine y_zne (t := 72) rfl rfl rfl (fun h44 => ?_) (fun h44 => ?_)
    · exact absurd h8 h44
    · refine y_st rfl rfl rfl rfl rfl (fun _ _ => rfl) ?_
      refine y_st rfl rfl rfl rfl rfl (fun _ _ => rfl) ?_
      show yP (xg xs) (d + 2) 19 49 [(4, .int (0 : Int32)), (3, .int (0 : Int32)), (0, .ref 8), (1, .ref 1), (2, .int z)] [.int (0 : Int32), .ref 8] m _
      refine y_call rfl rfl rfl rfl rfl (Nat.le_of_ble_eq_true rfl) (Nat.le_of_ble_eq_true rfl) rfl (by decide) (c35e xs d m 0 ht hB hb) (fun v1 m1 q1 => ?_)
      obtain ⟨rfl, e1⟩ := q1; rw [e1]; clear e1
      refine y_st rfl rfl rfl rfl rfl (fun _ _ => rfl) ?_
      refine y_st rfl rfl rfl rfl rfl (fun _ _ => rfl) ?_
      refine y_gf rfl rfl rfl rfl rfl ?_
      show yP (xg xs) (d + 2) 19 57 [(3, .int (0 : Int32)), (4, .int (0 : Int32)), (0, .ref 8), (1, .ref 1), (2, .int z)] [.int (m.1 8 8)] m _
      refine y_zne (t := 66) rfl rfl rfl (fun h57 => ?_) (fun h57 => ?_)
      · exact absurd h8 h57
      · refine y_st rfl rfl rfl rfl rfl (fun _ _ => rfl) ?_
        refine y_st rfl rfl rfl rfl rfl (fun _ _ => rfl) ?_
        show yP (xg xs) (d + 2) 19 62 [(3, .int (0 : Int32)), (4, .int (0 : Int32)), (0, .ref 8), (1, .ref 1), (2, .int z)] [.int (0 : Int32), .ref 8] m _
        refine y_call rfl rfl rfl rfl rfl (Nat.le_of_ble_eq_true rfl) (Nat.le_of_ble_eq_true rfl) rfl (by decide) (c40e xs d m 0 ht hB hb 0 h6 (Nat.zero_le _)) (fun v2 m2 q2 => ?_)
        obtain ⟨rfl, e2⟩ := q2; rw [e2]; clear e2
        refine y_st rfl rfl rfl rfl rfl (fun _ _ => rfl) ?_
        refine y_st rfl rfl rfl rfl rfl (fun _ _ => rfl) ?_
        refine y_st rfl rfl rfl rfl rfl (fun _ _ => rfl) ?_
        show yP (xg xs) (d + 2) 19 32 [(4, .int (1 : Int32)), (3, .int (0 : Int32)), (0, .ref 8), (1, .ref 1), (2, .int z)] [] (y_si (tkAdd m 0 67 (m.1 8 5) 0) 8 8 1) _
        refine y_head (l2 := [(4, .int (1 : Int32)), (3, .int (0 : Int32)), (0, .ref 8), (1, .ref 1), (2, .int z)]) [0, 1, 2, 3, 4] [4, 3, 0, 1, 2] 5 rfl (by decide) rfl rfl (by decide) ?_
        refine yP.mono (Nat.le_refl _) ?_ (c19B xs (d + 2) _ 1 0 z (by rw [y_si_same]; decide)); rintro r m1 ⟨rfl, rfl⟩; exact ⟨rfl, by simp [tkAdd, y_si_at], ((((((Kx.rf m).si (by decide)).si (by decide)).si (by decide)).si (by decide)).si (by decide))⟩
set_option maxRecDepth 20000 in
/-- Tokens.scan of the empty text -/
theorem c19e (xs : List Int32) (d : Nat) (m : yM) (hst : m.1 14 0 = 0) : yC (xg xs) (d + 5) 19 [.ref 8, .ref 1, .int (0 : Int32)] m (fun r m' => r = none ∧ m'.1 9 0 = 67 ∧ Kx m m') := by
  refine y_st rfl rfl rfl rfl rfl (fun _ _ => rfl) ?_
  refine y_st rfl rfl rfl rfl rfl (fun _ _ => rfl) ?_
  refine y_pfr rfl rfl rfl rfl rfl rfl ?_
  show yP (xg xs) (d + 5) 19 5 [(0, .ref 8), (1, .ref 1), (2, .int (0 : Int32))] [] (y_si m 8 4 (1 : Int32)) _
  refine y_st rfl rfl rfl rfl rfl (fun _ _ => rfl) ?_
  refine y_st rfl rfl rfl rfl rfl (fun _ _ => rfl) ?_
  refine y_pfi rfl rfl rfl rfl rfl (x_fit_i _) ?_
  show yP (xg xs) (d + 5) 19 10 [(0, .ref 8), (1, .ref 1), (2, .int (0 : Int32))] [] (y_si (y_si m 8 4 (1 : Int32)) 8 5 (0 : Int32)) _
  refine y_st rfl rfl rfl rfl rfl (fun _ _ => rfl) ?_
  refine y_st rfl rfl rfl rfl rfl (fun _ _ => rfl) ?_
  refine y_pfi rfl rfl rfl rfl rfl (x_fit_i _) ?_
  show yP (xg xs) (d + 5) 19 15 [(0, .ref 8), (1, .ref 1), (2, .int (0 : Int32))] [] (y_si (y_si (y_si m 8 4 (1 : Int32)) 8 5 (0 : Int32)) 8 6 (0 : Int32)) _
  refine y_st rfl rfl rfl rfl rfl (fun _ _ => rfl) ?_
  refine y_st rfl rfl rfl rfl rfl (fun _ _ => rfl) ?_
  refine y_pfi rfl rfl rfl rfl rfl (x_fit_z (by decide)) ?_
  show yP (xg xs) (d + 5) 19 20 [(0, .ref 8), (1, .ref 1), (2, .int (0 : Int32))] [] (y_si (y_si (y_si (y_si m 8 4 (1 : Int32)) 8 5 (0 : Int32)) 8 6 (0 : Int32)) 8 8 (0 : Int32)) _
  refine y_st rfl rfl rfl rfl rfl (fun _ _ => rfl) ?_
  refine y_gf rfl rfl rfl rfl rfl ?_
  show yP (xg xs) (d + 5) 19 24 [(0, .ref 8), (1, .ref 1), (2, .int (0 : Int32))] [.ref 12] (y_si (y_si (y_si (y_si m 8 4 (1 : Int32)) 8 5 (0 : Int32)) 8 6 (0 : Int32)) 8 8 (0 : Int32)) _
  refine y_call rfl rfl rfl rfl rfl (Nat.le_of_ble_eq_true rfl) (Nat.le_of_ble_eq_true rfl) rfl (by decide) (c20 xs d (y_si (y_si (y_si (y_si m 8 4 (1 : Int32)) 8 5 (0 : Int32)) 8 6 (0 : Int32)) 8 8 (0 : Int32)) (by simp [y_si_at, hst])) (fun v1 m1 q1 => ?_)
  obtain ⟨rfl, hN1, hK1⟩ := q1
  refine y_st rfl rfl rfl rfl rfl (fun _ _ => rfl) ?_
  refine y_st rfl rfl rfl rfl rfl (fun _ _ => rfl) ?_
  refine y_st rfl rfl rfl rfl rfl (fun _ _ => rfl) ?_
  refine y_st rfl rfl rfl rfl rfl (fun _ _ => rfl) ?_
  show yP (xg xs) (d + 5) 19 32 [(4, .int (0 : Int32)), (3, .int (0 : Int32)), (0, .ref 8), (1, .ref 1), (2, .int (0 : Int32))] [] m1 _
  refine y_head (l2 := [(4, .int (0 : Int32)), (3, .int (0 : Int32)), (0, .ref 8), (1, .ref 1), (2, .int (0 : Int32))]) [0, 1, 2, 3, 4] [4, 3, 0, 1, 2] 5 rfl (by decide) rfl rfl (by decide) ?_
  refine yP.mono (by omega) ?_ (c19A xs d m1 0 (by rw [hK1.1 8 (by omega)]; simp [y_si_at]) (by rw [hK1.1 8 (by omega)]; simp [y_si_at]) (by rw [hK1.1 8 (by omega)]; simp [y_si_at]) (by rw [hK1.1 8 (by omega)]; simp [y_si_at])); rintro r m2 ⟨rfl, g1, g2⟩; exact ⟨rfl, g1, ((((((Kx.rf m).si (by decide)).si (by decide)).si (by decide)).si (by decide)).tr hK1.kx).tr g2⟩
set_option maxRecDepth 20000 in
/-- Tree.add -/
theorem c72 (xs : List Int32) (d : Nat) (m : yM) (a b c : Int32) (k : Nat) (hk : m.1 2 5 = nI k) (h : k ≤ 16399) : yC (xg xs) (d + 1) 72 [.ref 2, .int a, .int b, .int c] m (fun r m' => r = some (.int (nI k)) ∧ m' = trAdd m k a b c) := by
  have eK : (nI k).toNatClampNeg = k := nI_clamp (by omega)
  refine y_st rfl rfl rfl rfl rfl (fun _ _ => rfl) ?_
  refine y_gf rfl rfl rfl rfl rfl ?_
  refine y_st rfl rfl rfl rfl rfl (fun _ _ => rfl) ?_
  refine y_mi rfl rfl rfl rfl rfl (Nat.le_of_ble_eq_true rfl) (by omega) ?_
  show yP (xg xs) (d + 1) 72 10 [(0, .ref 2), (1, .int a), (2, .int b), (3, .int c)] [.int (if (16399 : Int32) < (m.1 2 5) then (16399 : Int32) else (m.1 2 5))] m _
  rw [show (if (16399 : Int32) < (m.1 2 5) then (16399 : Int32) else (m.1 2 5)) = (nI k) from (if_neg (by rw [hk]; exact nI_nlt (a := 16399) h (by decide))).trans hk]
  refine y_st rfl rfl rfl rfl rfl (fun _ _ => rfl) ?_
  refine y_st rfl rfl rfl rfl rfl (fun _ _ => rfl) ?_
  refine y_gf rfl rfl rfl rfl rfl ?_
  refine y_st rfl rfl rfl rfl rfl (fun _ _ => rfl) ?_
  refine y_st rfl rfl rfl rfl rfl (fun _ _ => rfl) ?_
  show yP (xg xs) (d + 1) 72 19 [(4, .int (nI k)), (0, .ref 2), (1, .int a), (2, .int b), (3, .int c)] [.int a, .int (nI k), .ref 3] m _
  refine y_iast rfl rfl rfl (x_in_nI (by omega) (by decide)) ?_
  refine y_st rfl rfl rfl rfl rfl (fun _ _ => rfl) ?_
  refine y_gf rfl rfl rfl rfl rfl ?_
  refine y_st rfl rfl rfl rfl rfl (fun _ _ => rfl) ?_
  refine y_st rfl rfl rfl rfl rfl (fun _ _ => rfl) ?_
  show yP (xg xs) (d + 1) 72 27 [(4, .int (nI k)), (0, .ref 2), (1, .int a), (2, .int b), (3, .int c)] [.int b, .int (nI k), .ref 4] (y_si m 3 ((nI k).toNatClampNeg) a) _
  refine y_iast rfl rfl rfl (x_in_nI (by omega) (by decide)) ?_
  refine y_st rfl rfl rfl rfl rfl (fun _ _ => rfl) ?_
  refine y_gf rfl rfl rfl rfl rfl ?_
  refine y_st rfl rfl rfl rfl rfl (fun _ _ => rfl) ?_
  refine y_st rfl rfl rfl rfl rfl (fun _ _ => rfl) ?_
  show yP (xg xs) (d + 1) 72 35 [(4, .int (nI k)), (0, .ref 2), (1, .int a), (2, .int b), (3, .int c)] [.int c, .int (nI k), .ref 5] (y_si (y_si m 3 ((nI k).toNatClampNeg) a) 4 ((nI k).toNatClampNeg) b) _
  refine y_iast rfl rfl rfl (x_in_nI (by omega) (by decide)) ?_
  refine y_st rfl rfl rfl rfl rfl (fun _ _ => rfl) ?_
  refine y_gf rfl rfl rfl rfl rfl ?_
  refine y_st rfl rfl rfl rfl rfl (fun _ _ => rfl) ?_
  refine y_st rfl rfl rfl rfl rfl (fun _ _ => rfl) ?_
  show yP (xg xs) (d + 1) 72 43 [(4, .int (nI k)), (0, .ref 2), (1, .int a), (2, .int b), (3, .int c)] [.int (0 : Int32), .int (nI k), .ref 6] (y_si (y_si (y_si m 3 ((nI k).toNatClampNeg) a) 4 ((nI k).toNatClampNeg) b) 5 ((nI k).toNatClampNeg) c) _
  refine y_iast rfl rfl rfl (x_in_nI (by omega) (by decide)) ?_
  refine y_st rfl rfl rfl rfl rfl (fun _ _ => rfl) ?_
  refine y_gf rfl rfl rfl rfl rfl ?_
  refine y_st rfl rfl rfl rfl rfl (fun _ _ => rfl) ?_
  refine y_st rfl rfl rfl rfl rfl (fun _ _ => rfl) ?_
  refine y_st rfl rfl rfl rfl rfl (fun _ _ => rfl) ?_
  refine y_st rfl rfl rfl rfl rfl (fun _ _ => rfl) ?_
  show yP (xg xs) (d + 1) 72 54 [(4, .int (nI k)), (0, .ref 2), (1, .int a), (2, .int b), (3, .int c)] [.int ((nI k) + (1 : Int32)), .int (nI k), .ref 7] (y_si (y_si (y_si (y_si m 3 ((nI k).toNatClampNeg) a) 4 ((nI k).toNatClampNeg) b) 5 ((nI k).toNatClampNeg) c) 6 ((nI k).toNatClampNeg) (0 : Int32)) _
  refine y_iast rfl rfl rfl (x_in_nI (by omega) (by decide)) ?_
  refine y_st rfl rfl rfl rfl rfl (fun _ _ => rfl) ?_
  refine y_st rfl rfl rfl rfl rfl (fun _ _ => rfl) ?_
  refine y_st rfl rfl rfl rfl rfl (fun _ _ => rfl) ?_
  refine y_st rfl rfl rfl rfl rfl (fun _ _ => rfl) ?_
  refine y_pfi rfl rfl rfl rfl rfl (x_fit_i _) ?_
  show yP (xg xs) (d + 1) 72 63 [(4, .int (nI k)), (0, .ref 2), (1, .int a), (2, .int b), (3, .int c)] [] (y_si (y_si (y_si (y_si (y_si (y_si m 3 ((nI k).toNatClampNeg) a) 4 ((nI k).toNatClampNeg) b) 5 ((nI k).toNatClampNeg) c) 6 ((nI k).toNatClampNeg) (0 : Int32)) 7 ((nI k).toNatClampNeg) ((nI k) + (1 : Int32))) 2 5 ((nI k) + (1 : Int32))) _
  refine y_st rfl rfl rfl rfl rfl (fun _ _ => rfl) ?_
  show yP (xg xs) (d + 1) 72 65 [(4, .int (nI k)), (0, .ref 2), (1, .int a), (2, .int b), (3, .int c)] [.int (nI k)] (y_si (y_si (y_si (y_si (y_si (y_si m 3 ((nI k).toNatClampNeg) a) 4 ((nI k).toNatClampNeg) b) 5 ((nI k).toNatClampNeg) c) 6 ((nI k).toNatClampNeg) (0 : Int32)) 7 ((nI k).toNatClampNeg) ((nI k) + (1 : Int32))) 2 5 ((nI k) + (1 : Int32))) _
  exact y_iret rfl rfl rfl (by refine ⟨rfl, ?_⟩; simp only [nI_1, eK]; rfl)
set_option maxRecDepth 20000 in
/-- Tree.finish -/
theorem c85 (xs : List Int32) (d : Nat) (m : yM) (k : Nat) (h : k < 16401) : yC (xg xs) d 85 [.ref 2, .int (nI k)] m (fun r m' => r = none ∧ m' = y_si m 7 k (m.1 2 5)) := by
  refine y_st rfl rfl rfl rfl rfl (fun _ _ => rfl) ?_
  refine y_gf rfl rfl rfl rfl rfl ?_
  refine y_st rfl rfl rfl rfl rfl (fun _ _ => rfl) ?_
  refine y_st rfl rfl rfl rfl rfl (fun _ _ => rfl) ?_
  refine y_gf rfl rfl rfl rfl rfl ?_
  show yP (xg xs) d 85 9 [(0, .ref 2), (1, .int (nI k))] [.int (m.1 2 5), .int (nI k), .ref 7] m _
  refine y_iast rfl rfl rfl (x_in_nI h (by decide)) ?_
  show yP (xg xs) d 85 10 [(0, .ref 2), (1, .int (nI k))] [] (y_si m 7 ((nI k).toNatClampNeg) (m.1 2 5)) _
  exact y_ret rfl rfl rfl rfl (by refine ⟨rfl, ?_⟩; rw [nI_clamp (by omega)])
set_option maxRecDepth 20000 in
/-- Reader.isBlockWord -/
theorem c73 (xs : List Int32) (d : Nat) (m : yM)  : yC (xg xs) d 73 [.ref 17] m (fun r m' => r = some (.int (if m.1 17 5 = 0 ∨ m.1 17 5 = 2 ∨ m.1 17 5 = 4 then 1 else 0)) ∧ m' = m) := by
  refine y_st rfl rfl rfl rfl rfl (fun _ _ => rfl) ?_
  refine y_gf rfl rfl rfl rfl rfl ?_
  show yP (xg xs) d 73 4 [(0, .ref 17)] [.int (m.1 17 5)] m _
  refine y_zeq (t := 23) rfl rfl rfl (fun h4 => ?_) (fun h4 => ?_)
  · refine y_st rfl rfl rfl rfl rfl (fun _ _ => rfl) ?_
    refine y_st rfl rfl rfl rfl rfl (fun _ _ => rfl) ?_
    show yP (xg xs) d 73 28 [(0, .ref 17)] [.int (1 : Int32)] m _
    exact y_zret rfl rfl rfl (by decide) (by refine ⟨congrArg (fun z => some (Value.int z)) ?_, rfl⟩; grind)
  · refine y_st rfl rfl rfl rfl rfl (fun _ _ => rfl) ?_
    refine y_gf rfl rfl rfl rfl rfl ?_
    refine y_st rfl rfl rfl rfl rfl (fun _ _ => rfl) ?_
    show yP (xg xs) d 73 12 [(0, .ref 17)] [.int (2 : Int32), .int (m.1 17 5)] m _
    refine y_ieq (t := 23) rfl rfl rfl (fun h12 => ?_) (fun h12 => ?_)
    · refine y_st rfl rfl rfl rfl rfl (fun _ _ => rfl) ?_
      refine y_st rfl rfl rfl rfl rfl (fun _ _ => rfl) ?_
      show yP (xg xs) d 73 28 [(0, .ref 17)] [.int (1 : Int32)] m _
      exact y_zret rfl rfl rfl (by decide) (by refine ⟨congrArg (fun z => some (Value.int z)) ?_, rfl⟩; grind)
    · refine y_st rfl rfl rfl rfl rfl (fun _ _ => rfl) ?_
      refine y_gf rfl rfl rfl rfl rfl ?_
      refine y_st rfl rfl rfl rfl rfl (fun _ _ => rfl) ?_
      show yP (xg xs) d 73 20 [(0, .ref 17)] [.int (4 : Int32), .int (m.1 17 5)] m _
      refine y_ine (t := 27) rfl rfl rfl (fun h20 => ?_) (fun h20 => ?_)
      · refine y_st rfl rfl rfl rfl rfl (fun _ _ => rfl) ?_
        show yP (xg xs) d 73 28 [(0, .ref 17)] [.int (0 : Int32)] m _
        exact y_zret rfl rfl rfl (by decide) (by refine ⟨congrArg (fun z => some (Value.int z)) ?_, rfl⟩; grind)
      · refine y_st rfl rfl rfl rfl rfl (fun _ _ => rfl) ?_
        refine y_st rfl rfl rfl rfl rfl (fun _ _ => rfl) ?_
        show yP (xg xs) d 73 28 [(0, .ref 17)] [.int (1 : Int32)] m _
        exact y_zret rfl rfl rfl (by decide) (by refine ⟨congrArg (fun z => some (Value.int z)) ?_, rfl⟩; grind)
set_option maxRecDepth 20000 in
/-- Reader.read where nothing is -/
theorem c71e (xs : List Int32) (d : Nat) (m : yM) (h9 : m.1 9 0 = 67) : yC (xg xs) (d + 2) 71 [.ref 17] m (fun r m' => r = some (.int 0) ∧ m'.1 2 5 = 1 ∧ m'.1 3 0 = 0 ∧ m'.1 4 0 = 0 ∧ m'.1 7 0 = 1 ∧ Kx m m') := by
  refine y_st rfl rfl rfl rfl rfl (fun _ _ => rfl) ?_
  refine y_st rfl rfl rfl rfl rfl (fun _ _ => rfl) ?_
  refine y_pfi rfl rfl rfl rfl rfl (x_fit_i _) ?_
  show yP (xg xs) (d + 2) 71 5 [(0, .ref 17)] [] (y_si m 17 3 (0 : Int32)) _
  refine y_st rfl rfl rfl rfl rfl (fun _ _ => rfl) ?_
  refine y_st rfl rfl rfl rfl rfl (fun _ _ => rfl) ?_
  refine y_pfi rfl rfl rfl rfl rfl (x_fit_i _) ?_
  show yP (xg xs) (d + 2) 71 10 [(0, .ref 17)] [] (y_si (y_si m 17 3 (0 : Int32)) 17 0 ((-1) : Int32)) _
  refine y_st rfl rfl rfl rfl rfl (fun _ _ => rfl) ?_
  refine y_st rfl rfl rfl rfl rfl (fun _ _ => rfl) ?_
  refine y_pfi rfl rfl rfl rfl rfl (x_fit_i _) ?_
  show yP (xg xs) (d + 2) 71 15 [(0, .ref 17)] [] (y_si (y_si (y_si m 17 3 (0 : Int32)) 17 0 ((-1) : Int32)) 17 6 (0 : Int32)) _
  refine y_st rfl rfl rfl rfl rfl (fun _ _ => rfl) ?_
  refine y_st rfl rfl rfl rfl rfl (fun _ _ => rfl) ?_
  refine y_pfi rfl rfl rfl rfl rfl (x_fit_i _) ?_
  show yP (xg xs) (d + 2) 71 20 [(0, .ref 17)] [] (y_si (y_si (y_si (y_si m 17 3 (0 : Int32)) 17 0 ((-1) : Int32)) 17 6 (0 : Int32)) 17 4 (0 : Int32)) _
  refine y_st rfl rfl rfl rfl rfl (fun _ _ => rfl) ?_
  refine y_st rfl rfl rfl rfl rfl (fun _ _ => rfl) ?_
  refine y_gf rfl rfl rfl rfl rfl ?_
  refine y_gf rfl rfl rfl rfl rfl ?_
  refine y_st rfl rfl rfl rfl rfl (fun _ _ => rfl) ?_
  show yP (xg xs) (d + 2) 71 29 [(0, .ref 17)] [.int (0 : Int32), .ref 9, .ref 17] (y_si (y_si (y_si (y_si m 17 3 (0 : Int32)) 17 0 ((-1) : Int32)) 17 6 (0 : Int32)) 17 4 (0 : Int32)) _
  refine y_iald rfl rfl rfl (by decide) ?_
  refine y_pfi rfl rfl rfl rfl rfl (x_fit_i _) ?_
  show yP (xg xs) (d + 2) 71 33 [(0, .ref 17)] [] (y_si (y_si (y_si (y_si (y_si m 17 3 (0 : Int32)) 17 0 ((-1) : Int32)) 17 6 (0 : Int32)) 17 4 (0 : Int32)) 17 5 (m.1 9 0)) _
  refine y_st rfl rfl rfl rfl rfl (fun _ _ => rfl) ?_
  refine y_gf rfl rfl rfl rfl rfl ?_
  refine y_st rfl rfl rfl rfl rfl (fun _ _ => rfl) ?_
  refine y_pfi rfl rfl rfl rfl rfl (x_fit_i _) ?_
  show yP (xg xs) (d + 2) 71 41 [(0, .ref 17)] [] (y_si (y_si (y_si (y_si (y_si (y_si m 17 3 (0 : Int32)) 17 0 ((-1) : Int32)) 17 6 (0 : Int32)) 17 4 (0 : Int32)) 17 5 (m.1 9 0)) 2 5 (0 : Int32)) _
  refine y_st rfl rfl rfl rfl rfl (fun _ _ => rfl) ?_
  refine y_gf rfl rfl rfl rfl rfl ?_
  refine y_st rfl rfl rfl rfl rfl (fun _ _ => rfl) ?_
  refine y_st rfl rfl rfl rfl rfl (fun _ _ => rfl) ?_
  refine y_st rfl rfl rfl rfl rfl (fun _ _ => rfl) ?_
  show yP (xg xs) (d + 2) 71 48 [(0, .ref 17)] [.int (0 : Int32), .int (0 : Int32), .int (0 : Int32), .ref 2] (y_si (y_si (y_si (y_si (y_si (y_si m 17 3 (0 : Int32)) 17 0 ((-1) : Int32)) 17 6 (0 : Int32)) 17 4 (0 : Int32)) 17 5 (m.1 9 0)) 2 5 (0 : Int32)) _
  refine y_call rfl rfl rfl rfl rfl (Nat.le_of_ble_eq_true rfl) (Nat.le_of_ble_eq_true rfl) rfl (by decide) (c72 xs d (y_si (y_si (y_si (y_si (y_si (y_si m 17 3 (0 : Int32)) 17 0 ((-1) : Int32)) 17 6 (0 : Int32)) 17 4 (0 : Int32)) 17 5 (m.1 9 0)) 2 5 (0 : Int32)) 0 0 0 0 (by rw [y_si_same]; rfl) (by decide)) (fun v1 m1 q1 => ?_)
  obtain ⟨rfl, e1⟩ := q1; rw [e1]; clear e1
  refine y_st rfl rfl rfl rfl rfl (fun _ _ => rfl) ?_
  refine y_st rfl rfl rfl rfl rfl (fun _ _ => rfl) ?_
  refine y_st rfl rfl rfl rfl rfl (fun _ _ => rfl) ?_
  refine y_st rfl rfl rfl rfl rfl (fun _ _ => rfl) ?_
  refine y_st rfl rfl rfl rfl rfl (fun _ _ => rfl) ?_
  show yP (xg xs) (d + 2) 71 58 [(2, .int (0 : Int32)), (1, .int (nI 0)), (0, .ref 17)] [.int (8192 : Int32), .int (0 : Int32)] (trAdd (y_si (y_si (y_si (y_si (y_si (y_si m 17 3 (0 : Int32)) 17 0 ((-1) : Int32)) 17 6 (0 : Int32)) 17 4 (0 : Int32)) 17 5 (m.1 9 0)) 2 5 (0 : Int32)) 0 0 0 0) _
  refine y_ige (t := 78) rfl rfl rfl (fun h58 => ?_) (fun h58 => ?_)
  · exact absurd h58 (by decide)
  · refine y_st rfl rfl rfl rfl rfl (fun _ _ => rfl) ?_
    show yP (xg xs) (d + 2) 71 62 [(2, .int (0 : Int32)), (1, .int (nI 0)), (0, .ref 17)] [.ref 17] (trAdd (y_si (y_si (y_si (y_si (y_si (y_si m 17 3 (0 : Int32)) 17 0 ((-1) : Int32)) 17 6 (0 : Int32)) 17 4 (0 : Int32)) 17 5 (m.1 9 0)) 2 5 (0 : Int32)) 0 0 0 0) _
    refine y_call rfl rfl rfl rfl rfl (Nat.le_of_ble_eq_true rfl) (Nat.le_of_ble_eq_true rfl) rfl (by decide) (c73 xs (d + 1) (trAdd (y_si (y_si (y_si (y_si (y_si (y_si m 17 3 (0 : Int32)) 17 0 ((-1) : Int32)) 17 6 (0 : Int32)) 17 4 (0 : Int32)) 17 5 (m.1 9 0)) 2 5 (0 : Int32)) 0 0 0 0)) (fun v2 m2 q2 => ?_)
    obtain ⟨rfl, e2⟩ := q2; rw [e2]; clear e2
    show yP (xg xs) (d + 2) 71 65 [(2, .int (0 : Int32)), (1, .int (nI 0)), (0, .ref 17)] [.int (if (trAdd (y_si (y_si (y_si (y_si (y_si (y_si m 17 3 (0 : Int32)) 17 0 ((-1) : Int32)) 17 6 (0 : Int32)) 17 4 (0 : Int32)) 17 5 (m.1 9 0)) 2 5 (0 : Int32)) 0 0 0 0).1 17 5 = 0 ∨ (trAdd (y_si (y_si (y_si (y_si (y_si (y_si m 17 3 (0 : Int32)) 17 0 ((-1) : Int32)) 17 6 (0 : Int32)) 17 4 (0 : Int32)) 17 5 (m.1 9 0)) 2 5 (0 : Int32)) 0 0 0 0).1 17 5 = 2 ∨ (trAdd (y_si (y_si (y_si (y_si (y_si (y_si m 17 3 (0 : Int32)) 17 0 ((-1) : Int32)) 17 6 (0 : Int32)) 17 4 (0 : Int32)) 17 5 (m.1 9 0)) 2 5 (0 : Int32)) 0 0 0 0).1 17 5 = 4 then 1 else 0)] (trAdd (y_si (y_si (y_si (y_si (y_si (y_si m 17 3 (0 : Int32)) 17 0 ((-1) : Int32)) 17 6 (0 : Int32)) 17 4 (0 : Int32)) 17 5 (m.1 9 0)) 2 5 (0 : Int32)) 0 0 0 0) _
    refine y_zeq (t := 78) rfl rfl rfl (fun h65 => ?_) (fun h65 => ?_)
    · refine y_st rfl rfl rfl rfl rfl (fun _ _ => rfl) ?_
      refine y_gf rfl rfl rfl rfl rfl ?_
      refine y_st rfl rfl rfl rfl rfl (fun _ _ => rfl) ?_
      show yP (xg xs) (d + 2) 71 84 [(2, .int (0 : Int32)), (1, .int (nI 0)), (0, .ref 17)] [.int (67 : Int32), .int ((trAdd (y_si (y_si (y_si (y_si (y_si (y_si m 17 3 (0 : Int32)) 17 0 ((-1) : Int32)) 17 6 (0 : Int32)) 17 4 (0 : Int32)) 17 5 (m.1 9 0)) 2 5 (0 : Int32)) 0 0 0 0).1 17 5)] (trAdd (y_si (y_si (y_si (y_si (y_si (y_si m 17 3 (0 : Int32)) 17 0 ((-1) : Int32)) 17 6 (0 : Int32)) 17 4 (0 : Int32)) 17 5 (m.1 9 0)) 2 5 (0 : Int32)) 0 0 0 0) _
      refine y_ieq (t := 93) rfl rfl rfl (fun h84 => ?_) (fun h84 => ?_)
      · refine y_st rfl rfl rfl rfl rfl (fun _ _ => rfl) ?_
        refine y_gf rfl rfl rfl rfl rfl ?_
        refine y_st rfl rfl rfl rfl rfl (fun _ _ => rfl) ?_
        show yP (xg xs) (d + 2) 71 98 [(2, .int (0 : Int32)), (1, .int (nI 0)), (0, .ref 17)] [.int (nI 0), .ref 2] (trAdd (y_si (y_si (y_si (y_si (y_si (y_si m 17 3 (0 : Int32)) 17 0 ((-1) : Int32)) 17 6 (0 : Int32)) 17 4 (0 : Int32)) 17 5 (m.1 9 0)) 2 5 (0 : Int32)) 0 0 0 0) _
        refine y_call rfl rfl rfl rfl rfl (Nat.le_of_ble_eq_true rfl) (Nat.le_of_ble_eq_true rfl) rfl (by decide) (yC.mono (Nat.zero_le _) (fun _ _ z => z) (c85 xs 0 (trAdd (y_si (y_si (y_si (y_si (y_si (y_si m 17 3 (0 : Int32)) 17 0 ((-1) : Int32)) 17 6 (0 : Int32)) 17 4 (0 : Int32)) 17 5 (m.1 9 0)) 2 5 (0 : Int32)) 0 0 0 0) 0 (by decide))) (fun v3 m3 q3 => ?_)
        obtain ⟨rfl, e3⟩ := q3; rw [e3]; clear e3
        refine y_st rfl rfl rfl rfl rfl (fun _ _ => rfl) ?_
        refine y_gf rfl rfl rfl rfl rfl ?_
        show yP (xg xs) (d + 2) 71 105 [(2, .int (0 : Int32)), (1, .int (nI 0)), (0, .ref 17)] [.int ((y_si (trAdd (y_si (y_si (y_si (y_si (y_si (y_si m 17 3 (0 : Int32)) 17 0 ((-1) : Int32)) 17 6 (0 : Int32)) 17 4 (0 : Int32)) 17 5 (m.1 9 0)) 2 5 (0 : Int32)) 0 0 0 0) 7 0 ((trAdd (y_si (y_si (y_si (y_si (y_si (y_si m 17 3 (0 : Int32)) 17 0 ((-1) : Int32)) 17 6 (0 : Int32)) 17 4 (0 : Int32)) 17 5 (m.1 9 0)) 2 5 (0 : Int32)) 0 0 0 0).1 2 5)).1 17 3)] (y_si (trAdd (y_si (y_si (y_si (y_si (y_si (y_si m 17 3 (0 : Int32)) 17 0 ((-1) : Int32)) 17 6 (0 : Int32)) 17 4 (0 : Int32)) 17 5 (m.1 9 0)) 2 5 (0 : Int32)) 0 0 0 0) 7 0 ((trAdd (y_si (y_si (y_si (y_si (y_si (y_si m 17 3 (0 : Int32)) 17 0 ((-1) : Int32)) 17 6 (0 : Int32)) 17 4 (0 : Int32)) 17 5 (m.1 9 0)) 2 5 (0 : Int32)) 0 0 0 0).1 2 5)) _
        exact y_iret rfl rfl rfl (⟨congrArg (fun z => some (Value.int z)) (by simp [trAdd, y_si_at]), by simp [trAdd, y_si_at]; rfl, by simp [trAdd, y_si_at], by simp [trAdd, y_si_at], by simp [trAdd, y_si_at]; rfl, ((((((Kx.rf m).si (by decide)).si (by decide)).si (by decide)).si (by decide)).si (by decide)).si (by decide) |>.trA |>.si (by decide)⟩)
      · exact absurd (by simp [trAdd, y_si_at, h9]) h84
    · exact absurd (y_ift h65) (by simp [trAdd, y_si_at, h9])
set_option maxRecDepth 20000 in
/-- Scope.forget -/
theorem c111 (xs : List Int32) (d : Nat) (m : yM)  : yC (xg xs) (d + 1) 111 [.ref 18] m (fun r m' => r = none ∧ m' = y_si (y_si (y_si (y_fill (y_fill m 29 4172 (-1)) 30 4172 (-1)) 18 9 0) 18 15 0) 18 10 0) := by
  refine y_st rfl rfl rfl rfl rfl (fun _ _ => rfl) ?_
  refine y_gf rfl rfl rfl rfl rfl ?_
  refine y_st rfl rfl rfl rfl rfl (fun _ _ => rfl) ?_
  show yP (xg xs) (d + 1) 111 5 [(0, .ref 18)] [.int ((-1) : Int32), .ref 29] m _
  refine y_call rfl rfl rfl rfl rfl (Nat.le_of_ble_eq_true rfl) (Nat.le_of_ble_eq_true rfl) rfl (by decide) (c21_29 xs d m (-1)) (fun v1 m1 q1 => ?_)
  obtain ⟨rfl, e1⟩ := q1; rw [e1]; clear e1
  refine y_st rfl rfl rfl rfl rfl (fun _ _ => rfl) ?_
  refine y_gf rfl rfl rfl rfl rfl ?_
  refine y_st rfl rfl rfl rfl rfl (fun _ _ => rfl) ?_
  show yP (xg xs) (d + 1) 111 13 [(0, .ref 18)] [.int ((-1) : Int32), .ref 30] (y_fill m 29 4172 (-1)) _
  refine y_call rfl rfl rfl rfl rfl (Nat.le_of_ble_eq_true rfl) (Nat.le_of_ble_eq_true rfl) rfl (by decide) (c21_30 xs d (y_fill m 29 4172 (-1)) (-1)) (fun v2 m2 q2 => ?_)
  obtain ⟨rfl, e2⟩ := q2; rw [e2]; clear e2
  refine y_st rfl rfl rfl rfl rfl (fun _ _ => rfl) ?_
  refine y_st rfl rfl rfl rfl rfl (fun _ _ => rfl) ?_
  refine y_pfi rfl rfl rfl rfl rfl (x_fit_i _) ?_
  show yP (xg xs) (d + 1) 111 21 [(0, .ref 18)] [] (y_si (y_fill (y_fill m 29 4172 (-1)) 30 4172 (-1)) 18 9 (0 : Int32)) _
  refine y_st rfl rfl rfl rfl rfl (fun _ _ => rfl) ?_
  refine y_st rfl rfl rfl rfl rfl (fun _ _ => rfl) ?_
  refine y_pfi rfl rfl rfl rfl rfl (x_fit_i _) ?_
  show yP (xg xs) (d + 1) 111 26 [(0, .ref 18)] [] (y_si (y_si (y_fill (y_fill m 29 4172 (-1)) 30 4172 (-1)) 18 9 (0 : Int32)) 18 15 (0 : Int32)) _
  refine y_st rfl rfl rfl rfl rfl (fun _ _ => rfl) ?_
  refine y_st rfl rfl rfl rfl rfl (fun _ _ => rfl) ?_
  refine y_pfi rfl rfl rfl rfl rfl (x_fit_i _) ?_
  show yP (xg xs) (d + 1) 111 31 [(0, .ref 18)] [] (y_si (y_si (y_si (y_fill (y_fill m 29 4172 (-1)) 30 4172 (-1)) 18 9 (0 : Int32)) 18 15 (0 : Int32)) 18 10 (0 : Int32)) _
  show yP (xg xs) (d + 1) 111 31 [(0, .ref 18)] [] (y_si (y_si (y_si (y_fill (y_fill m 29 4172 (-1)) 30 4172 (-1)) 18 9 (0 : Int32)) 18 15 (0 : Int32)) 18 10 (0 : Int32)) _
  exact y_ret rfl rfl rfl rfl (⟨rfl, rfl⟩)
set_option maxRecDepth 20000 in
/-- Scope.isIn of no block -/
theorem c114e (xs : List Int32) (d : Nat) (m : yM) (k : Int32) (h0 : m.1 18 9 = 0) : yC (xg xs) d 114 [.ref 18, .int k] m (fun r m' => r = some (.int 0) ∧ m' = m) := by
  refine y_st rfl rfl rfl rfl rfl (fun _ _ => rfl) ?_
  refine y_gf rfl rfl rfl rfl rfl ?_
  show yP (xg xs) d 114 4 [(0, .ref 18), (1, .int k)] [.int (m.1 18 9)] m _
  refine y_zle (t := 26) rfl rfl rfl (fun h4 => ?_) (fun h4 => ?_)
  · refine y_st rfl rfl rfl rfl rfl (fun _ _ => rfl) ?_
    show yP (xg xs) d 114 27 [(0, .ref 18), (1, .int k)] [.int (0 : Int32)] m _
    exact y_zret rfl rfl rfl (by decide) (⟨rfl, rfl⟩)
  · exact absurd (by rw [h0]; decide) h4
set_option maxRecDepth 20000 in
/-- Rules.lookAtText of no block -/
theorem c113e (xs : List Int32) (d : Nat) (m : yM) (h0 : m.1 18 9 = 0) : yC (xg xs) (d + 1) 113 [.ref 31] m (fun r m' => r = some (.int 10) ∧ m' = m) := by
  refine y_st rfl rfl rfl rfl rfl (fun _ _ => rfl) ?_
  refine y_gf rfl rfl rfl rfl rfl ?_
  refine y_st rfl rfl rfl rfl rfl (fun _ _ => rfl) ?_
  show yP (xg xs) (d + 1) 113 5 [(0, .ref 31)] [.int (3 : Int32), .ref 18] m _
  refine y_call rfl rfl rfl rfl rfl (Nat.le_of_ble_eq_true rfl) (Nat.le_of_ble_eq_true rfl) rfl (by decide) (c114e xs d m 3 h0) (fun v1 m1 q1 => ?_)
  obtain ⟨rfl, e1⟩ := q1; rw [e1]; clear e1
  show yP (xg xs) (d + 1) 113 8 [(0, .ref 31)] [.int (0 : Int32)] m _
  refine y_zne (t := 14) rfl rfl rfl (fun h8 => ?_) (fun h8 => ?_)
  · exact absurd h8 (by decide)
  · refine y_st rfl rfl rfl rfl rfl (fun _ _ => rfl) ?_
    show yP (xg xs) (d + 1) 113 13 [(0, .ref 31)] [.int (10 : Int32)] m _
    exact y_iret rfl rfl rfl (⟨rfl, rfl⟩)
set_option maxRecDepth 20000 in
/-- Rules.look at the root of no block -/
theorem c112e (xs : List Int32) (d : Nat) (m : yM) (k : Nat) (hk : k < 16401) (h3 : m.1 3 k = 0) (h0 : m.1 18 9 = 0) : yC (xg xs) (d + 2) 112 [.ref 31, .int (nI k)] m (fun r m' => r = some (.int 10) ∧ m' = m) := by
  refine y_st rfl rfl rfl rfl rfl (fun _ _ => rfl) ?_
  refine y_gf rfl rfl rfl rfl rfl ?_
  refine y_gf rfl rfl rfl rfl rfl ?_
  refine y_st rfl rfl rfl rfl rfl (fun _ _ => rfl) ?_
  show yP (xg xs) (d + 2) 112 8 [(0, .ref 31), (1, .int (nI k))] [.int (nI k), .ref 3] m _
  refine y_iald rfl rfl rfl (x_in_nI hk (by decide)) ?_
  show yP (xg xs) (d + 2) 112 9 [(0, .ref 31), (1, .int (nI k))] [.int (m.1 3 ((nI k).toNatClampNeg))] m _
  refine y_tsw (t := 144) rfl rfl (by rw [nI_clamp (by omega), h3]; rfl) ?_
  refine y_st rfl rfl rfl rfl rfl (fun _ _ => rfl) ?_
  show yP (xg xs) (d + 2) 112 145 [(0, .ref 31), (1, .int (nI k))] [.ref 31] m _
  refine y_call rfl rfl rfl rfl rfl (Nat.le_of_ble_eq_true rfl) (Nat.le_of_ble_eq_true rfl) rfl (by decide) (c113e xs d m h0) (fun v1 m1 q1 => ?_)
  obtain ⟨rfl, e1⟩ := q1; rw [e1]; clear e1
  show yP (xg xs) (d + 2) 112 148 [(0, .ref 31), (1, .int (nI k))] [.int (10 : Int32)] m _
  exact y_iret rfl rfl rfl (⟨rfl, rfl⟩)
set_option maxRecDepth 20000 in
/-- Rules.tell of a fault -/
theorem c184 (xs : List Int32) (d : Nat) (m : yM) (f : Int32) (hf : ¬ f = 0) (k : Nat) (hk : k < 16401) : yC (xg xs) d 184 [.ref 31, .int f, .int (nI k)] m (fun r m' => r = none ∧ m' = y_si (y_si m 31 7 f) 31 0 (m.1 4 k)) := by
  refine y_st rfl rfl rfl rfl rfl (fun _ _ => rfl) ?_
  show yP (xg xs) d 184 1 [(0, .ref 31), (1, .int f), (2, .int (nI k))] [.int f] m _
  refine y_zeq (t := 22) rfl rfl rfl (fun h1 => ?_) (fun h1 => ?_)
  · exact absurd h1 hf
  · refine y_st rfl rfl rfl rfl rfl (fun _ _ => rfl) ?_
    refine y_st rfl rfl rfl rfl rfl (fun _ _ => rfl) ?_
    refine y_pfi rfl rfl rfl rfl rfl (x_fit_i _) ?_
    show yP (xg xs) d 184 9 [(0, .ref 31), (1, .int f), (2, .int (nI k))] [] (y_si m 31 7 f) _
    refine y_st rfl rfl rfl rfl rfl (fun _ _ => rfl) ?_
    refine y_st rfl rfl rfl rfl rfl (fun _ _ => rfl) ?_
    refine y_gf rfl rfl rfl rfl rfl ?_
    refine y_gf rfl rfl rfl rfl rfl ?_
    refine y_st rfl rfl rfl rfl rfl (fun _ _ => rfl) ?_
    show yP (xg xs) d 184 18 [(0, .ref 31), (1, .int f), (2, .int (nI k))] [.int (nI k), .ref 4, .ref 31] (y_si m 31 7 f) _
    refine y_iald rfl rfl rfl (x_in_nI hk (by decide)) ?_
    refine y_pfi rfl rfl rfl rfl rfl (x_fit_i _) ?_
    show yP (xg xs) d 184 22 [(0, .ref 31), (1, .int f), (2, .int (nI k))] [] (y_si (y_si m 31 7 f) 31 0 (m.1 4 ((nI k).toNatClampNeg))) _
    show yP (xg xs) d 184 22 [(0, .ref 31), (1, .int f), (2, .int (nI k))] [] (y_si (y_si m 31 7 f) 31 0 (m.1 4 ((nI k).toNatClampNeg))) _
    exact y_ret rfl rfl rfl rfl (by refine ⟨rfl, ?_⟩; rw [nI_clamp (by omega)])
set_option maxRecDepth 20000 in
/-- Rules.enter of a root -/
theorem c185e (xs : List Int32) (d : Nat) (m : yM) (k : Nat) (hk : k < 16401) (h3 : m.1 3 k = 0) (h6 : m.1 31 6 = 0) : yC (xg xs) d 185 [.ref 31, .int (nI k)] m (fun r m' => r = none ∧ m' = y_si (y_si m 32 0 (nI k)) 31 6 1) := by
  refine y_st rfl rfl rfl rfl rfl (fun _ _ => rfl) ?_
  refine y_gf rfl rfl rfl rfl rfl ?_
  refine y_gf rfl rfl rfl rfl rfl ?_
  refine y_st rfl rfl rfl rfl rfl (fun _ _ => rfl) ?_
  show yP (xg xs) d 185 8 [(0, .ref 31), (1, .int (nI k))] [.int (nI k), .ref 3] m _
  refine y_iald rfl rfl rfl (x_in_nI hk (by decide)) ?_
  refine y_st rfl rfl rfl rfl rfl (fun _ _ => rfl) ?_
  show yP (xg xs) d 185 10 [(0, .ref 31), (1, .int (nI k))] [.int (1 : Int32), .int (m.1 3 ((nI k).toNatClampNeg))] m _
  refine y_ilt (t := 36) rfl rfl rfl (fun h10 => ?_) (fun h10 => ?_)
  · refine y_st rfl rfl rfl rfl rfl (fun _ _ => rfl) ?_
    refine y_gf rfl rfl rfl rfl rfl ?_
    refine y_st rfl rfl rfl rfl rfl (fun _ _ => rfl) ?_
    show yP (xg xs) d 185 43 [(0, .ref 31), (1, .int (nI k))] [.int (256 : Int32), .int (m.1 31 6)] m _
    refine y_ige (t := 66) rfl rfl rfl (fun h43 => ?_) (fun h43 => ?_)
    · exact absurd h43 (by rw [h6]; decide)
    · refine y_st rfl rfl rfl rfl rfl (fun _ _ => rfl) ?_
      refine y_gf rfl rfl rfl rfl rfl ?_
      refine y_st rfl rfl rfl rfl rfl (fun _ _ => rfl) ?_
      refine y_gf rfl rfl rfl rfl rfl ?_
      refine y_st rfl rfl rfl rfl rfl (fun _ _ => rfl) ?_
      show yP (xg xs) d 185 55 [(0, .ref 31), (1, .int (nI k))] [.int (nI k), .int (m.1 31 6), .ref 32] m _
      refine y_iast rfl rfl rfl (by rw [h6]; decide) ?_
      refine y_st rfl rfl rfl rfl rfl (fun _ _ => rfl) ?_
      refine y_st rfl rfl rfl rfl rfl (fun _ _ => rfl) ?_
      refine y_gf rfl rfl rfl rfl rfl ?_
      refine y_st rfl rfl rfl rfl rfl (fun _ _ => rfl) ?_
      refine y_st rfl rfl rfl rfl rfl (fun _ _ => rfl) ?_
      refine y_pfi rfl rfl rfl rfl rfl (x_fit_i _) ?_
      show yP (xg xs) d 185 66 [(0, .ref 31), (1, .int (nI k))] [] (y_si (y_si m 32 ((m.1 31 6).toNatClampNeg) (nI k)) 31 6 ((m.1 31 6) + (1 : Int32))) _
      show yP (xg xs) d 185 66 [(0, .ref 31), (1, .int (nI k))] [] (y_si (y_si m 32 ((m.1 31 6).toNatClampNeg) (nI k)) 31 6 ((m.1 31 6) + (1 : Int32))) _
      exact y_ret rfl rfl rfl rfl (by refine ⟨rfl, ?_⟩; simp only [h6]; rfl)
  · exact absurd (by rw [nI_clamp (by omega), h3]; decide) h10
set_option maxRecDepth 20000 in
/-- Rules.check behind its nodes -/
theorem c110A (xs : List Int32) (d : Nat) (m : yM) (n : Int32) (h5 : m.1 2 5 < n) : yP (xg xs) d 110 46 [(1, .int n), (0, .ref 31)] [] m (fun r m' => r = some (.int (m.1 31 7)) ∧ m' = m) := by
  refine y_st rfl rfl rfl rfl rfl (fun _ _ => rfl) ?_
  refine y_st rfl rfl rfl rfl rfl (fun _ _ => rfl) ?_
  refine y_gf rfl rfl rfl rfl rfl ?_
  refine y_gf rfl rfl rfl rfl rfl ?_
  show yP (xg xs) d 110 54 [(1, .int n), (0, .ref 31)] [.int (m.1 2 5), .int n] m _
  refine y_igt (t := 169) rfl rfl rfl (fun h54 => ?_) (fun h54 => ?_)
  · refine y_st rfl rfl rfl rfl rfl (fun _ _ => rfl) ?_
    refine y_gf rfl rfl rfl rfl rfl ?_
    show yP (xg xs) d 110 173 [(1, .int n), (0, .ref 31)] [.int (m.1 31 7)] m _
    exact y_iret rfl rfl rfl (⟨rfl, rfl⟩)
  · exact absurd h5 h54
set_option maxRecDepth 20000 in
/-- Rules.check, the last turn -/
theorem c110C (xs : List Int32) (d : Nat) (m : yM) (h5 : m.1 2 5 = 1) (h6 : m.1 31 6 = 0) : yP (xg xs) d 110 64 [(1, .int (1 : Int32)), (0, .ref 31)] [] m (fun r m' => r = some (.int (m.1 31 7)) ∧ m' = m) := by
  refine y_st rfl rfl rfl rfl rfl (fun _ _ => rfl) ?_
  refine y_gf rfl rfl rfl rfl rfl ?_
  show yP (xg xs) d 110 68 [(1, .int (1 : Int32)), (0, .ref 31)] [.int (m.1 31 6)] m _
  refine y_zle (t := 140) rfl rfl rfl (fun h68 => ?_) (fun h68 => ?_)
  · refine y_st rfl rfl rfl rfl rfl (fun _ _ => rfl) ?_
    refine y_st rfl rfl rfl rfl rfl (fun _ _ => rfl) ?_
    refine y_gf rfl rfl rfl rfl rfl ?_
    refine y_gf rfl rfl rfl rfl rfl ?_
    show yP (xg xs) d 110 148 [(1, .int (1 : Int32)), (0, .ref 31)] [.int (m.1 2 5), .int (1 : Int32)] m _
    refine y_ige (t := 163) rfl rfl rfl (fun h148 => ?_) (fun h148 => ?_)
    · refine y_st rfl rfl rfl rfl rfl (fun _ _ => rfl) ?_
      refine y_st rfl rfl rfl rfl rfl (fun _ _ => rfl) ?_
      show yP (xg xs) d 110 46 [(1, .int (2 : Int32)), (0, .ref 31)] [] m _
      refine y_head (l2 := [(1, .int (2 : Int32)), (0, .ref 31)]) [0, 1] [1, 0] 2 rfl (by decide) rfl rfl (by decide) ?_
      exact c110A xs d m 2 (by rw [h5]; decide)
    · exact absurd (by rw [h5]; decide) h148
  · exact absurd (by rw [h6]; decide) h68
set_option maxRecDepth 20000 in
/-- Rules.check, the root's end -/
theorem c110B0 (xs : List Int32) (d : Nat) (m : yM) (h5 : m.1 2 5 = 1) (h3 : m.1 3 0 = 0) (h7 : m.1 7 0 = 1) (h0 : m.1 18 9 = 0) (hf : m.1 31 7 = 0) (h6 : m.1 31 6 = 1) (hp : m.1 32 0 = 0) : yP (xg xs) (d + 3) 110 64 [(1, .int (1 : Int32)), (0, .ref 31)] [] m (fun r m' => r = some (.int 10) ∧ Kx m m') := by
  have E0 : m.1 32 (m.1 31 6 - 1).toNatClampNeg = 0 := by rw [h6]; exact hp
  have E1 : m.1 7 (m.1 32 (m.1 31 6 - 1).toNatClampNeg).toNatClampNeg = 1 := by rw [E0]; exact h7
  have E2 : m.1 32 (m.1 31 6 - 1).toNatClampNeg = nI 0 := E0
  have E3 : (y_si m 31 6 (m.1 31 6 - 1)).1 32 ((y_si m 31 6 (m.1 31 6 - 1)).1 31 6).toNatClampNeg = nI 0 := by rw [y_si_same, y_si_cell _ _ _ (by decide)]; exact E0
  refine y_st rfl rfl rfl rfl rfl (fun _ _ => rfl) ?_
  refine y_gf rfl rfl rfl rfl rfl ?_
  show yP (xg xs) (d + 3) 110 68 [(1, .int (1 : Int32)), (0, .ref 31)] [.int (m.1 31 6)] m _
  refine y_zle (t := 140) rfl rfl rfl (fun h68 => ?_) (fun h68 => ?_)
  · exact absurd h68 (by rw [h6]; decide)
  · refine y_st rfl rfl rfl rfl rfl (fun _ _ => rfl) ?_
    refine y_gf rfl rfl rfl rfl rfl ?_
    show yP (xg xs) (d + 3) 110 75 [(1, .int (1 : Int32)), (0, .ref 31)] [.int (m.1 31 7)] m _
    refine y_zne (t := 140) rfl rfl rfl (fun h75 => ?_) (fun h75 => ?_)
    · exact absurd hf h75
    · refine y_st rfl rfl rfl rfl rfl (fun _ _ => rfl) ?_
      refine y_gf rfl rfl rfl rfl rfl ?_
      refine y_gf rfl rfl rfl rfl rfl ?_
      refine y_st rfl rfl rfl rfl rfl (fun _ _ => rfl) ?_
      refine y_gf rfl rfl rfl rfl rfl ?_
      refine y_st rfl rfl rfl rfl rfl (fun _ _ => rfl) ?_
      refine y_gf rfl rfl rfl rfl rfl ?_
      refine y_st rfl rfl rfl rfl rfl (fun _ _ => rfl) ?_
      refine y_st rfl rfl rfl rfl rfl (fun _ _ => rfl) ?_
      show yP (xg xs) (d + 3) 110 95 [(1, .int (1 : Int32)), (0, .ref 31)] [.int ((m.1 31 6) - (1 : Int32)), .ref 32, .ref 7] m _
      refine y_iald rfl rfl rfl (by rw [h6]; decide) ?_
      show yP (xg xs) (d + 3) 110 96 [(1, .int (1 : Int32)), (0, .ref 31)] [.int (m.1 32 (((m.1 31 6) - (1 : Int32)).toNatClampNeg)), .ref 7] m _
      refine y_iald rfl rfl rfl (by rw [E0]; decide) ?_
      refine y_st rfl rfl rfl rfl rfl (fun _ _ => rfl) ?_
      show yP (xg xs) (d + 3) 110 98 [(1, .int (1 : Int32)), (0, .ref 31)] [.int (1 : Int32), .int (m.1 7 ((m.1 32 (((m.1 31 6) - (1 : Int32)).toNatClampNeg)).toNatClampNeg))] m _
      refine y_igt (t := 140) rfl rfl rfl (fun h98 => ?_) (fun h98 => ?_)
      · exact absurd h98 (by rw [E1]; decide)
      · refine y_st rfl rfl rfl rfl rfl (fun _ _ => rfl) ?_
        refine y_st rfl rfl rfl rfl rfl (fun _ _ => rfl) ?_
        refine y_gf rfl rfl rfl rfl rfl ?_
        refine y_st rfl rfl rfl rfl rfl (fun _ _ => rfl) ?_
        refine y_st rfl rfl rfl rfl rfl (fun _ _ => rfl) ?_
        refine y_pfi rfl rfl rfl rfl rfl (x_fit_i _) ?_
        show yP (xg xs) (d + 3) 110 111 [(1, .int (1 : Int32)), (0, .ref 31)] [] (y_si m 31 6 ((m.1 31 6) - (1 : Int32))) _
        refine y_st rfl rfl rfl rfl rfl (fun _ _ => rfl) ?_
        refine y_st rfl rfl rfl rfl rfl (fun _ _ => rfl) ?_
        refine y_st rfl rfl rfl rfl rfl (fun _ _ => rfl) ?_
        refine y_gf rfl rfl rfl rfl rfl ?_
        refine y_st rfl rfl rfl rfl rfl (fun _ _ => rfl) ?_
        refine y_gf rfl rfl rfl rfl rfl ?_
        show yP (xg xs) (d + 3) 110 121 [(1, .int (1 : Int32)), (0, .ref 31)] [.int ((m.1 31 6) - (1 : Int32)), .ref 32, .ref 31, .ref 31] (y_si m 31 6 ((m.1 31 6) - (1 : Int32))) _
        refine y_iald rfl rfl rfl (by rw [h6]; decide) ?_
        show yP (xg xs) (d + 3) 110 122 [(1, .int (1 : Int32)), (0, .ref 31)] [.int (m.1 32 (((m.1 31 6) - (1 : Int32)).toNatClampNeg)), .ref 31, .ref 31] (y_si m 31 6 ((m.1 31 6) - (1 : Int32))) _
        rw [E2]
        refine y_call rfl rfl rfl rfl rfl (Nat.le_of_ble_eq_true rfl) (Nat.le_of_ble_eq_true rfl) rfl (by decide) (c112e xs d (y_si m 31 6 ((m.1 31 6) - (1 : Int32))) 0 (by decide) (by rw [y_si_cell _ _ _ (by decide)]; exact h3) (by rw [y_si_cell _ _ _ (by decide)]; exact h0)) (fun v1 m1 q1 => ?_)
        obtain ⟨rfl, e1⟩ := q1; rw [e1]; clear e1
        refine y_st rfl rfl rfl rfl rfl (fun _ _ => rfl) ?_
        refine y_gf rfl rfl rfl rfl rfl ?_
        refine y_st rfl rfl rfl rfl rfl (fun _ _ => rfl) ?_
        refine y_gf rfl rfl rfl rfl rfl ?_
        show yP (xg xs) (d + 3) 110 133 [(1, .int (1 : Int32)), (0, .ref 31)] [.int ((y_si m 31 6 ((m.1 31 6) - (1 : Int32))).1 31 6), .ref 32, .int (10 : Int32), .ref 31] (y_si m 31 6 ((m.1 31 6) - (1 : Int32))) _
        refine y_iald rfl rfl rfl (by rw [y_si_same, h6]; decide) ?_
        show yP (xg xs) (d + 3) 110 134 [(1, .int (1 : Int32)), (0, .ref 31)] [.int ((y_si m 31 6 ((m.1 31 6) - (1 : Int32))).1 32 (((y_si m 31 6 ((m.1 31 6) - (1 : Int32))).1 31 6).toNatClampNeg)), .int (10 : Int32), .ref 31] (y_si m 31 6 ((m.1 31 6) - (1 : Int32))) _
        rw [E3]
        refine y_call rfl rfl rfl rfl rfl (Nat.le_of_ble_eq_true rfl) (Nat.le_of_ble_eq_true rfl) rfl (by decide) (yC.mono (Nat.zero_le _) (fun _ _ z => z) (c184 xs 0 (y_si m 31 6 ((m.1 31 6) - (1 : Int32))) 10 (by decide) 0 (by decide))) (fun v2 m2 q2 => ?_)
        obtain ⟨rfl, e2⟩ := q2; rw [e2]; clear e2
        refine y_st rfl rfl rfl rfl rfl (fun _ _ => rfl) ?_
        show yP (xg xs) (d + 3) 110 64 [(1, .int (1 : Int32)), (0, .ref 31)] [] (y_si (y_si (y_si m 31 6 ((m.1 31 6) - (1 : Int32))) 31 7 10) 31 0 ((y_si m 31 6 ((m.1 31 6) - (1 : Int32))).1 4 0)) _
        refine y_head (l2 := [(1, .int (1 : Int32)), (0, .ref 31)]) [0, 1] [1, 0] 2 rfl (by decide) rfl rfl (by decide) ?_
        refine yP.mono (Nat.le_refl _) ?_ (c110C xs (d + 3) _ (by simp [y_si_at, h5]) (by simp [y_si_at, h6])); rintro r m1 ⟨rfl, rfl⟩; exact ⟨congrArg (fun z => some (Value.int z)) (by simp [y_si_at]), (((Kx.rf m).si (by decide)).si (by decide)).si (by decide)⟩
set_option maxRecDepth 20000 in
/-- Rules.check, the root once more -/
theorem c110B (xs : List Int32) (d : Nat) (m : yM) (h5 : m.1 2 5 = 1) (h3 : m.1 3 0 = 0) (h7 : m.1 7 0 = 1) (h0 : m.1 18 9 = 0) (hf : m.1 31 7 = 0) (h6 : m.1 31 6 = 1) (hp : m.1 32 0 = 0) : yP (xg xs) (d + 3) 110 46 [(1, .int (1 : Int32)), (0, .ref 31)] [] m (fun r m' => r = some (.int 10) ∧ Kx m m') := by
  refine y_st rfl rfl rfl rfl rfl (fun _ _ => rfl) ?_
  refine y_st rfl rfl rfl rfl rfl (fun _ _ => rfl) ?_
  refine y_gf rfl rfl rfl rfl rfl ?_
  refine y_gf rfl rfl rfl rfl rfl ?_
  show yP (xg xs) (d + 3) 110 54 [(1, .int (1 : Int32)), (0, .ref 31)] [.int (m.1 2 5), .int (1 : Int32)] m _
  refine y_igt (t := 169) rfl rfl rfl (fun h54 => ?_) (fun h54 => ?_)
  · exact absurd h54 (by rw [h5]; decide)
  · refine y_st rfl rfl rfl rfl rfl (fun _ _ => rfl) ?_
    refine y_gf rfl rfl rfl rfl rfl ?_
    show yP (xg xs) (d + 3) 110 61 [(1, .int (1 : Int32)), (0, .ref 31)] [.int (m.1 31 7)] m _
    refine y_zne (t := 169) rfl rfl rfl (fun h61 => ?_) (fun h61 => ?_)
    · exact absurd hf h61
    · show yP (xg xs) (d + 3) 110 64 [(1, .int (1 : Int32)), (0, .ref 31)] [] m _
      refine y_head (l2 := [(1, .int (1 : Int32)), (0, .ref 31)]) [0, 1] [1, 0] 2 rfl (by decide) rfl rfl (by decide) ?_
      exact c110B0 xs d m h5 h3 h7 h0 hf h6 hp
set_option maxRecDepth 20000 in
/-- Rules.check, the root's begin -/
theorem c110D (xs : List Int32) (d : Nat) (m : yM) (h5 : m.1 2 5 = 1) (h3 : m.1 3 0 = 0) (h7 : m.1 7 0 = 1) (h0 : m.1 18 9 = 0) (hf : m.1 31 7 = 0) (h6 : m.1 31 6 = 0) : yP (xg xs) (d + 3) 110 46 [(1, .int (0 : Int32)), (0, .ref 31)] [] m (fun r m' => r = some (.int 10) ∧ Kx m m') := by
  refine y_st rfl rfl rfl rfl rfl (fun _ _ => rfl) ?_
  refine y_st rfl rfl rfl rfl rfl (fun _ _ => rfl) ?_
  refine y_gf rfl rfl rfl rfl rfl ?_
  refine y_gf rfl rfl rfl rfl rfl ?_
  show yP (xg xs) (d + 3) 110 54 [(1, .int (0 : Int32)), (0, .ref 31)] [.int (m.1 2 5), .int (0 : Int32)] m _
  refine y_igt (t := 169) rfl rfl rfl (fun h54 => ?_) (fun h54 => ?_)
  · exact absurd h54 (by rw [h5]; decide)
  · refine y_st rfl rfl rfl rfl rfl (fun _ _ => rfl) ?_
    refine y_gf rfl rfl rfl rfl rfl ?_
    show yP (xg xs) (d + 3) 110 61 [(1, .int (0 : Int32)), (0, .ref 31)] [.int (m.1 31 7)] m _
    refine y_zne (t := 169) rfl rfl rfl (fun h61 => ?_) (fun h61 => ?_)
    · exact absurd hf h61
    · refine y_st rfl rfl rfl rfl rfl (fun _ _ => rfl) ?_
      refine y_gf rfl rfl rfl rfl rfl ?_
      show yP (xg xs) (d + 3) 110 68 [(1, .int (0 : Int32)), (0, .ref 31)] [.int (m.1 31 6)] m _
      refine y_zle (t := 140) rfl rfl rfl (fun h68 => ?_) (fun h68 => ?_)
      · refine y_st rfl rfl rfl rfl rfl (fun _ _ => rfl) ?_
        refine y_st rfl rfl rfl rfl rfl (fun _ _ => rfl) ?_
        refine y_gf rfl rfl rfl rfl rfl ?_
        refine y_gf rfl rfl rfl rfl rfl ?_
        show yP (xg xs) (d + 3) 110 148 [(1, .int (0 : Int32)), (0, .ref 31)] [.int (m.1 2 5), .int (0 : Int32)] m _
        refine y_ige (t := 163) rfl rfl rfl (fun h148 => ?_) (fun h148 => ?_)
        · exact absurd h148 (by rw [h5]; decide)
        · refine y_st rfl rfl rfl rfl rfl (fun _ _ => rfl) ?_
          refine y_gf rfl rfl rfl rfl rfl ?_
          show yP (xg xs) (d + 3) 110 155 [(1, .int (0 : Int32)), (0, .ref 31)] [.int (m.1 31 7)] m _
          refine y_zne (t := 163) rfl rfl rfl (fun h155 => ?_) (fun h155 => ?_)
          · exact absurd hf h155
          · refine y_st rfl rfl rfl rfl rfl (fun _ _ => rfl) ?_
            refine y_st rfl rfl rfl rfl rfl (fun _ _ => rfl) ?_
            show yP (xg xs) (d + 3) 110 160 [(1, .int (0 : Int32)), (0, .ref 31)] [.int (0 : Int32), .ref 31] m _
            refine y_call rfl rfl rfl rfl rfl (Nat.le_of_ble_eq_true rfl) (Nat.le_of_ble_eq_true rfl) rfl (by decide) (yC.mono (Nat.zero_le _) (fun _ _ z => z) (c185e xs 0 m 0 (by decide) h3 h6)) (fun v1 m1 q1 => ?_)
            obtain ⟨rfl, e1⟩ := q1; rw [e1]; clear e1
            refine y_st rfl rfl rfl rfl rfl (fun _ _ => rfl) ?_
            refine y_st rfl rfl rfl rfl rfl (fun _ _ => rfl) ?_
            show yP (xg xs) (d + 3) 110 46 [(1, .int (1 : Int32)), (0, .ref 31)] [] (y_si (y_si m 32 0 (nI 0)) 31 6 1) _
            refine y_head (l2 := [(1, .int (1 : Int32)), (0, .ref 31)]) [0, 1] [1, 0] 2 rfl (by decide) rfl rfl (by decide) ?_
            refine yP.mono (Nat.le_refl _) ?_ (c110B xs d _ (by simp [y_si_at, h5]) (by simp [y_si_at, h3]) (by simp [y_si_at, h7]) (by simp [y_si_at, h0]) (by simp [y_si_at, hf]) (by simp [y_si_at]) (by simp [y_si_at]; rfl)); rintro r m1 ⟨rfl, g⟩; exact ⟨rfl, (((Kx.rf m).si (by decide)).si (by decide)).tr g⟩
      · exact absurd (by rw [h6]; decide) h68
set_option maxRecDepth 20000 in
/-- Rules.check, its marks -/
theorem c110L (xs : List Int32) (d : Nat) (m : yM) (Q : Option Value → yM → Prop) (K : yP (xg xs) d 110 44 [(1, .int (nI 960)), (0, .ref 31)] [] (y_fill m 33 960 0) Q) : ∀ (q : Nat) (i : Nat), i + q = 960 → yP (xg xs) d 110 24 [(1, .int (nI i)), (0, .ref 31)] [] (y_fill m 33 i 0) (fun r m' => Q r m') := by
  intro q
  induction q with
  | zero =>
    intro i hi
    have hi2 : i = 960 := by omega
    refine y_st rfl rfl rfl rfl rfl (fun _ _ => rfl) ?_
    refine y_st rfl rfl rfl rfl rfl (fun _ _ => rfl) ?_
    show yP (xg xs) d 110 28 [(1, .int (nI i)), (0, .ref 31)] [.int (960 : Int32), .int (nI i)] (y_fill m 33 i 0) _
    refine y_ige (t := 44) rfl rfl rfl (fun h28 => ?_) (fun h28 => ?_)
    · show yP (xg xs) d 110 44 [(1, .int (nI i)), (0, .ref 31)] [] (y_fill m 33 i 0) _
      refine y_head (l2 := [(1, .int (nI i)), (0, .ref 31)]) [0, 1] [1, 0] 2 rfl (by decide) rfl rfl (by decide) ?_
      rw [hi2]; exact K
    · exact absurd (by rw [hi2]; exact Int32.le_refl _) h28
  | succ q ih =>
    intro i hi
    have hi2 : i < 960 := by omega
    refine y_st rfl rfl rfl rfl rfl (fun _ _ => rfl) ?_
    refine y_st rfl rfl rfl rfl rfl (fun _ _ => rfl) ?_
    show yP (xg xs) d 110 28 [(1, .int (nI i)), (0, .ref 31)] [.int (960 : Int32), .int (nI i)] (y_fill m 33 i 0) _
    refine y_ige (t := 44) rfl rfl rfl (fun h28 => ?_) (fun h28 => ?_)
    · exact absurd h28 (nI_ge (b := 960) hi2 (by decide))
    · refine y_st rfl rfl rfl rfl rfl (fun _ _ => rfl) ?_
      refine y_gf rfl rfl rfl rfl rfl ?_
      refine y_st rfl rfl rfl rfl rfl (fun _ _ => rfl) ?_
      refine y_st rfl rfl rfl rfl rfl (fun _ _ => rfl) ?_
      show yP (xg xs) d 110 37 [(1, .int (nI i)), (0, .ref 31)] [.int (0 : Int32), .int (nI i), .ref 33] (y_fill m 33 i 0) _
      refine y_zast rfl rfl rfl (x_in_nI hi2 (by decide)) ?_
      refine y_st rfl rfl rfl rfl rfl (fun _ _ => rfl) ?_
      refine y_st rfl rfl rfl rfl rfl (fun _ _ => rfl) ?_
      show yP (xg xs) d 110 24 [(1, .int ((nI i) + (1 : Int32))), (0, .ref 31)] [] (y_si (y_fill m 33 i 0) 33 ((nI i).toNatClampNeg) (vp_nar .boolean (0 : Int32))) _
      refine y_head (l2 := [(1, .int ((nI i) + (1 : Int32))), (0, .ref 31)]) [0, 1] [1, 0] 2 rfl (by decide) rfl rfl (by decide) ?_
      rw [nI_clamp (by omega), show vp_nar .boolean (0 : Int32) = 0 from rfl, y_fill_s, nI_1]; exact ih (i + 1) (by omega)
set_option maxRecDepth 20000 in
/-- Rules.check behind its marks -/
theorem c110M (xs : List Int32) (d : Nat) (m : yM) (h5 : m.1 2 5 = 1) (h3 : m.1 3 0 = 0) (h7 : m.1 7 0 = 1) (h0 : m.1 18 9 = 0) (hf : m.1 31 7 = 0) (h6 : m.1 31 6 = 0) (v : Int32) : yP (xg xs) (d + 3) 110 44 [(1, .int v), (0, .ref 31)] [] m (fun r m' => r = some (.int 10) ∧ Kx m m') := by
  refine y_st rfl rfl rfl rfl rfl (fun _ _ => rfl) ?_
  refine y_st rfl rfl rfl rfl rfl (fun _ _ => rfl) ?_
  show yP (xg xs) (d + 3) 110 46 [(1, .int (0 : Int32)), (0, .ref 31)] [] m _
  refine y_head (l2 := [(1, .int (0 : Int32)), (0, .ref 31)]) [0, 1] [1, 0] 2 rfl (by decide) rfl rfl (by decide) ?_
  exact c110D xs d m h5 h3 h7 h0 hf h6
theorem MMr (m : yM) {a i : Nat} (h : a ≤ 17) : (y_fill (y_si (y_si (y_si (y_si (y_si (y_si (y_fill (y_fill m 29 4172 (-1)) 30 4172 (-1)) 18 9 0) 18 15 0) 18 10 0) 31 6 0) 31 7 0) 31 0 (-1)) 33 960 0).1 a i = m.1 a i := by
  rw [y_fill_o _ _ _ _ _ (by omega)]
  simp only [y_si_at]
  rw [if_neg (by omega), if_neg (by omega), if_neg (by omega), if_neg (by omega), if_neg (by omega), if_neg (by omega), y_fill_o _ _ _ _ _ (by omega), y_fill_o _ _ _ _ _ (by omega)]
set_option maxRecDepth 20000 in
/-- Rules.check of no block -/
theorem c110e (xs : List Int32) (d : Nat) (m : yM) (h5 : m.1 2 5 = 1) (h3 : m.1 3 0 = 0) (h7 : m.1 7 0 = 1) : yC (xg xs) (d + 3) 110 [.ref 31] m (fun r m' => r = some (.int 10) ∧ Kx m m') := by
  refine y_st rfl rfl rfl rfl rfl (fun _ _ => rfl) ?_
  refine y_gf rfl rfl rfl rfl rfl ?_
  show yP (xg xs) (d + 3) 110 4 [(0, .ref 31)] [.ref 18] m _
  refine y_call rfl rfl rfl rfl rfl (Nat.le_of_ble_eq_true rfl) (Nat.le_of_ble_eq_true rfl) rfl (by decide) (c111 xs (d + 1) m) (fun v1 m1 q1 => ?_)
  obtain ⟨rfl, e1⟩ := q1; rw [e1]; clear e1
  refine y_st rfl rfl rfl rfl rfl (fun _ _ => rfl) ?_
  refine y_st rfl rfl rfl rfl rfl (fun _ _ => rfl) ?_
  refine y_pfi rfl rfl rfl rfl rfl (x_fit_i _) ?_
  show yP (xg xs) (d + 3) 110 12 [(0, .ref 31)] [] (y_si (y_si (y_si (y_si (y_fill (y_fill m 29 4172 (-1)) 30 4172 (-1)) 18 9 0) 18 15 0) 18 10 0) 31 6 (0 : Int32)) _
  refine y_st rfl rfl rfl rfl rfl (fun _ _ => rfl) ?_
  refine y_st rfl rfl rfl rfl rfl (fun _ _ => rfl) ?_
  refine y_pfi rfl rfl rfl rfl rfl (x_fit_i _) ?_
  show yP (xg xs) (d + 3) 110 17 [(0, .ref 31)] [] (y_si (y_si (y_si (y_si (y_si (y_fill (y_fill m 29 4172 (-1)) 30 4172 (-1)) 18 9 0) 18 15 0) 18 10 0) 31 6 (0 : Int32)) 31 7 (0 : Int32)) _
  refine y_st rfl rfl rfl rfl rfl (fun _ _ => rfl) ?_
  refine y_st rfl rfl rfl rfl rfl (fun _ _ => rfl) ?_
  refine y_pfi rfl rfl rfl rfl rfl (x_fit_i _) ?_
  show yP (xg xs) (d + 3) 110 22 [(0, .ref 31)] [] (y_si (y_si (y_si (y_si (y_si (y_si (y_fill (y_fill m 29 4172 (-1)) 30 4172 (-1)) 18 9 0) 18 15 0) 18 10 0) 31 6 (0 : Int32)) 31 7 (0 : Int32)) 31 0 ((-1) : Int32)) _
  refine y_st rfl rfl rfl rfl rfl (fun _ _ => rfl) ?_
  refine y_st rfl rfl rfl rfl rfl (fun _ _ => rfl) ?_
  show yP (xg xs) (d + 3) 110 24 [(1, .int (0 : Int32)), (0, .ref 31)] [] (y_si (y_si (y_si (y_si (y_si (y_si (y_fill (y_fill m 29 4172 (-1)) 30 4172 (-1)) 18 9 0) 18 15 0) 18 10 0) 31 6 (0 : Int32)) 31 7 (0 : Int32)) 31 0 ((-1) : Int32)) _
  refine y_head (l2 := [(1, .int (0 : Int32)), (0, .ref 31)]) [0, 1] [1, 0] 2 rfl (by decide) rfl rfl (by decide) ?_
  have z := c110L xs (d + 3) (y_si (y_si (y_si (y_si (y_si (y_si (y_fill (y_fill m 29 4172 (-1)) 30 4172 (-1)) 18 9 0) 18 15 0) 18 10 0) 31 6 0) 31 7 0) 31 0 (-1)) (fun r m' => r = some (.int 10) ∧ Kx m m') ?_ 960 0 (by omega)
  · rw [y_fill_0] at z; exact z
  refine yP.mono (Nat.le_refl _) ?_ (c110M xs d _ (by rw [MMr m (by decide)]; exact h5) (by rw [MMr m (by decide)]; exact h3) (by rw [MMr m (by decide)]; exact h7) (by rw [y_fill_o _ _ _ _ _ (by decide)]; simp [y_si_at]) (by rw [y_fill_o _ _ _ _ _ (by decide)]; simp [y_si_at]) (by rw [y_fill_o _ _ _ _ _ (by decide)]; simp [y_si_at]) (nI 960))
  rintro r m1 ⟨rfl, g⟩
  exact ⟨rfl, (((((((((((Kx.rf m).fill (by decide)).fill (by decide)).si (by decide)).si (by decide)).si (by decide)).si (by decide)).si (by decide)).si (by decide)).fill (by decide))).tr g⟩
set_option maxRecDepth 20000 in
/-- CodeMaker.make on the empty text -/
theorem c18e (xs : List Int32) (d : Nat) (m : yM) (h9 : m.1 0 9 = 0) (hst : m.1 14 0 = 0) : yC (xg xs) (d + 6) 18 [.ref 0] m (fun r m' => r = some (.int 10) ∧ Kx m m') := by
  refine y_st rfl rfl rfl rfl rfl (fun _ _ => rfl) ?_
  refine y_st rfl rfl rfl rfl rfl (fun _ _ => rfl) ?_
  refine y_pfi rfl rfl rfl rfl rfl (x_fit_z (by decide)) ?_
  show yP (xg xs) (d + 6) 18 5 [(0, .ref 0)] [] (y_si m 0 12 (0 : Int32)) _
  refine y_st rfl rfl rfl rfl rfl (fun _ _ => rfl) ?_
  refine y_gf rfl rfl rfl rfl rfl ?_
  refine y_st rfl rfl rfl rfl rfl (fun _ _ => rfl) ?_
  refine y_gf rfl rfl rfl rfl rfl ?_
  refine y_st rfl rfl rfl rfl rfl (fun _ _ => rfl) ?_
  refine y_gf rfl rfl rfl rfl rfl ?_
  show yP (xg xs) (d + 6) 18 17 [(0, .ref 0)] [.int (m.1 0 9), .ref 1, .ref 8] (y_si m 0 12 (0 : Int32)) _
  rw [h9]
  refine y_call rfl rfl rfl rfl rfl (Nat.le_of_ble_eq_true rfl) (Nat.le_of_ble_eq_true rfl) rfl (by decide) (c19e xs d (y_si m 0 12 (0 : Int32)) (by rw [y_si_cell _ _ _ (by decide)]; exact hst)) (fun v1 m1 q1 => ?_)
  obtain ⟨rfl, g1, k1⟩ := q1
  refine y_st rfl rfl rfl rfl rfl (fun _ _ => rfl) ?_
  refine y_st rfl rfl rfl rfl rfl (fun _ _ => rfl) ?_
  refine y_gf rfl rfl rfl rfl rfl ?_
  show yP (xg xs) (d + 6) 18 25 [(0, .ref 0)] [.ref 17, .ref 0] m1 _
  refine y_call rfl rfl rfl rfl rfl (Nat.le_of_ble_eq_true rfl) (Nat.le_of_ble_eq_true rfl) rfl (by decide) (yC.mono (by omega) (fun _ _ z => z) (c71e xs d m1 g1)) (fun v2 m2 q2 => ?_)
  obtain ⟨rfl, t1, t2, t3, t4, k2⟩ := q2
  refine y_pfi rfl rfl rfl rfl rfl (x_fit_i _) ?_
  show yP (xg xs) (d + 6) 18 31 [(0, .ref 0)] [] (y_si m2 0 10 (0 : Int32)) _
  refine y_st rfl rfl rfl rfl rfl (fun _ _ => rfl) ?_
  refine y_st rfl rfl rfl rfl rfl (fun _ _ => rfl) ?_
  refine y_gf rfl rfl rfl rfl rfl ?_
  refine y_gf rfl rfl rfl rfl rfl ?_
  refine y_pfi rfl rfl rfl rfl rfl (x_fit_i _) ?_
  show yP (xg xs) (d + 6) 18 42 [(0, .ref 0)] [] (y_si (y_si m2 0 10 (0 : Int32)) 0 11 (m2.1 17 0)) _
  refine y_st rfl rfl rfl rfl rfl (fun _ _ => rfl) ?_
  refine y_gf rfl rfl rfl rfl rfl ?_
  show yP (xg xs) (d + 6) 18 46 [(0, .ref 0)] [.int (0 : Int32)] (y_si (y_si m2 0 10 (0 : Int32)) 0 11 (m2.1 17 0)) _
  refine y_zne (t := 71) rfl rfl rfl (fun h46 => ?_) (fun h46 => ?_)
  · exact absurd h46 (by decide)
  · refine y_st rfl rfl rfl rfl rfl (fun _ _ => rfl) ?_
    refine y_st rfl rfl rfl rfl rfl (fun _ _ => rfl) ?_
    refine y_gf rfl rfl rfl rfl rfl ?_
    show yP (xg xs) (d + 6) 18 54 [(0, .ref 0)] [.ref 31, .ref 0] (y_si (y_si m2 0 10 (0 : Int32)) 0 11 (m2.1 17 0)) _
    refine y_call rfl rfl rfl rfl rfl (Nat.le_of_ble_eq_true rfl) (Nat.le_of_ble_eq_true rfl) rfl (by decide) (yC.mono (by omega) (fun _ _ z => z) (c110e xs d (y_si (y_si m2 0 10 (0 : Int32)) 0 11 (m2.1 17 0)) (by simp [y_si_at, t1]) (by simp [y_si_at, t2]) (by simp [y_si_at, t4]))) (fun v3 m3 q3 => ?_)
    obtain ⟨rfl, k3⟩ := q3
    refine y_pfi rfl rfl rfl rfl rfl (x_fit_i _) ?_
    show yP (xg xs) (d + 6) 18 60 [(0, .ref 0)] [] (y_si m3 0 10 (10 : Int32)) _
    refine y_st rfl rfl rfl rfl rfl (fun _ _ => rfl) ?_
    refine y_st rfl rfl rfl rfl rfl (fun _ _ => rfl) ?_
    refine y_gf rfl rfl rfl rfl rfl ?_
    refine y_gf rfl rfl rfl rfl rfl ?_
    refine y_pfi rfl rfl rfl rfl rfl (x_fit_i _) ?_
    show yP (xg xs) (d + 6) 18 71 [(0, .ref 0)] [] (y_si (y_si m3 0 10 (10 : Int32)) 0 11 (m3.1 31 0)) _
    refine y_st rfl rfl rfl rfl rfl (fun _ _ => rfl) ?_
    refine y_gf rfl rfl rfl rfl rfl ?_
    show yP (xg xs) (d + 6) 18 75 [(0, .ref 0)] [.int (10 : Int32)] (y_si (y_si m3 0 10 (10 : Int32)) 0 11 (m3.1 31 0)) _
    refine y_zne (t := 86) rfl rfl rfl (fun h75 => ?_) (fun h75 => ?_)
    · refine y_st rfl rfl rfl rfl rfl (fun _ _ => rfl) ?_
      refine y_gf rfl rfl rfl rfl rfl ?_
      show yP (xg xs) (d + 6) 18 90 [(0, .ref 0)] [.int (10 : Int32)] (y_si (y_si m3 0 10 (10 : Int32)) 0 11 (m3.1 31 0)) _
      refine y_zne (t := 110) rfl rfl rfl (fun h90 => ?_) (fun h90 => ?_)
      · refine y_st rfl rfl rfl rfl rfl (fun _ _ => rfl) ?_
        refine y_gf rfl rfl rfl rfl rfl ?_
        show yP (xg xs) (d + 6) 18 114 [(0, .ref 0)] [.int (10 : Int32)] (y_si (y_si m3 0 10 (10 : Int32)) 0 11 (m3.1 31 0)) _
        exact y_iret rfl rfl rfl (⟨rfl, ((((((((Kx.rf m).si (by decide)).tr k1).tr k2).si (by decide)).si (by decide)).tr k3).si (by decide)).si (by decide)⟩)
      · exact absurd h90 (by decide)
    · exact absurd h75 (by decide)
