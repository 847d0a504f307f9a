/-! FILLED ARRAYS AND STRINGS: laid by wip/gen/small11.py -/
def y_fill (m : yM) (a n : Nat) (v : Int32) : yM := (fun k => if k = a then (fun i => if i < n then v else m.1 a i) else m.1 k, m.2)
theorem y_fill_0 (m : yM) (a : Nat) (v : Int32) : y_fill m a 0 v = m := by
  unfold y_fill
  refine Prod.ext (funext fun k => ?_) rfl
  by_cases h : k = a
  · subst h; simp
  · simp [h]
theorem y_fill_s (m : yM) (a i : Nat) (v : Int32) : y_si (y_fill m a i v) a i v = y_fill m a (i + 1) v := by
  refine Prod.ext (funext fun k => funext fun j => ?_) rfl
  rw [y_si_at]
  simp only [y_fill]
  by_cases h : k = a
  · subst h
    by_cases h2 : j = i
    · simp [h2]
    · simp only [h2, and_false, if_false, if_true]
      by_cases h3 : j < i
      · rw [if_pos h3, if_pos (by omega)]
      · rw [if_neg h3, if_neg (by omega)]
  · simp [h]
theorem y_fill_in (m : yM) (a n i : Nat) (v : Int32) (h : i < n) : (y_fill m a n v).1 a i = v := by simp [y_fill, h]
theorem y_fill_o (m : yM) (a n b : Nat) (v : Int32) (h : b ≠ a) : (y_fill m a n v).1 b = m.1 b := by simp [y_fill, h]
theorem y_fill_2 (m : yM) (a n : Nat) (v : Int32) : (y_fill m a n v).2 = m.2 := rfl
set_option maxRecDepth 20000 in
/-- Arrays.fill, its loop, of array 16 -/
theorem c21_16L (xs : List Int32) (d : Nat) (m : yM) (v : Int32) : ∀ (q : Nat) (i : Nat), i + q = 1024 → yP (xg xs) d 21 5 [(3, .int (1024 : Int32)), (2, .int (nI i)), (0, .ref 16), (1, .int v)] [] (y_fill m 16 i v) (fun r m' => r = none ∧ m' = y_fill m 16 1024 v) := by
  intro q
  induction q with
  | zero =>
    intro i hi
    have hi2 : i = 1024 := by omega
    refine y_st rfl rfl rfl rfl rfl (fun _ _ => rfl) ?_
    refine y_st rfl rfl rfl rfl rfl (fun _ _ => rfl) ?_
    show yP (xg xs) d 21 7 [(3, .int (1024 : Int32)), (2, .int (nI i)), (0, .ref 16), (1, .int v)] [.int (1024 : Int32), .int (nI i)] (y_fill m 16 i v) _
    refine y_ige (t := 20) rfl rfl rfl (fun h7 => ?_) (fun h7 => ?_)
    · show yP (xg xs) d 21 20 [(3, .int (1024 : Int32)), (2, .int (nI i)), (0, .ref 16), (1, .int v)] [] (y_fill m 16 i v) _
      exact y_ret rfl rfl rfl rfl (⟨rfl, by rw [hi2]⟩)
    · exact absurd (by rw [hi2]; exact Int32.le_refl _) h7
  | succ q ih =>
    intro i hi
    have hi2 : i < 1024 := by omega
    refine y_st rfl rfl rfl rfl rfl (fun _ _ => rfl) ?_
    refine y_st rfl rfl rfl rfl rfl (fun _ _ => rfl) ?_
    show yP (xg xs) d 21 7 [(3, .int (1024 : Int32)), (2, .int (nI i)), (0, .ref 16), (1, .int v)] [.int (1024 : Int32), .int (nI i)] (y_fill m 16 i v) _
    refine y_ige (t := 20) rfl rfl rfl (fun h7 => ?_) (fun h7 => ?_)
    · exact absurd h7 (nI_ge (b := 1024) hi2 (by decide))
    · refine y_st rfl rfl rfl rfl rfl (fun _ _ => rfl) ?_
      refine y_st rfl rfl rfl rfl rfl (fun _ _ => rfl) ?_
      refine y_st rfl rfl rfl rfl rfl (fun _ _ => rfl) ?_
      show yP (xg xs) d 21 13 [(3, .int (1024 : Int32)), (2, .int (nI i)), (0, .ref 16), (1, .int v)] [.int v, .int (nI i), .ref 16] (y_fill m 16 i v) _
      refine y_iast rfl rfl rfl (x_in_nI hi2 (by decide)) ?_
      refine y_st rfl rfl rfl rfl rfl (fun _ _ => rfl) ?_
      refine y_st rfl rfl rfl rfl rfl (fun _ _ => rfl) ?_
      show yP (xg xs) d 21 5 [(2, .int ((nI i) + (1 : Int32))), (3, .int (1024 : Int32)), (0, .ref 16), (1, .int v)] [] (y_si (y_fill m 16 i v) 16 ((nI i).toNatClampNeg) v) _
      refine y_head (l2 := [(3, .int (1024 : Int32)), (2, .int ((nI i) + (1 : Int32))), (0, .ref 16), (1, .int v)]) [1, 0, 2, 3] [3, 2, 0, 1] 4 rfl (by decide) rfl rfl (by decide) ?_
      rw [nI_clamp (by omega), y_fill_s, nI_1]; exact ih (i + 1) (by omega)
set_option maxRecDepth 20000 in
/-- Arrays.fill of array 16 -/
theorem c21_16 (xs : List Int32) (d : Nat) (m : yM) (v : Int32) : yC (xg xs) d 21 [.ref 16, .int v] m (fun r m' => r = none ∧ m' = y_fill m 16 1024 v) := by
  refine y_st rfl rfl rfl rfl rfl (fun _ _ => rfl) ?_
  refine y_st rfl rfl rfl rfl rfl (fun _ _ => rfl) ?_
  refine y_st rfl rfl rfl rfl rfl (fun _ _ => rfl) ?_
  refine y_st rfl rfl rfl rfl rfl (fun _ _ => rfl) ?_
  refine y_st rfl rfl rfl rfl rfl (fun _ _ => rfl) ?_
  show yP (xg xs) d 21 5 [(3, .int (1024 : Int32)), (2, .int (0 : Int32)), (0, .ref 16), (1, .int v)] [] m _
  refine y_head (l2 := [(3, .int (1024 : Int32)), (2, .int (0 : Int32)), (0, .ref 16), (1, .int v)]) [0, 1, 2, 3] [3, 2, 0, 1] 4 rfl (by decide) rfl rfl (by decide) ?_
  have z := c21_16L xs d m v 1024 0 (by omega); rw [y_fill_0] at z; exact z
set_option maxRecDepth 20000 in
/-- Arrays.fill, its loop, of array 29 -/
theorem c21_29L (xs : List Int32) (d : Nat) (m : yM) (v : Int32) : ∀ (q : Nat) (i : Nat), i + q = 4172 → yP (xg xs) d 21 5 [(3, .int (4172 : Int32)), (2, .int (nI i)), (0, .ref 29), (1, .int v)] [] (y_fill m 29 i v) (fun r m' => r = none ∧ m' = y_fill m 29 4172 v) := by
  intro q
  induction q with
  | zero =>
    intro i hi
    have hi2 : i = 4172 := by omega
    refine y_st rfl rfl rfl rfl rfl (fun _ _ => rfl) ?_
    refine y_st rfl rfl rfl rfl rfl (fun _ _ => rfl) ?_
    show yP (xg xs) d 21 7 [(3, .int (4172 : Int32)), (2, .int (nI i)), (0, .ref 29), (1, .int v)] [.int (4172 : Int32), .int (nI i)] (y_fill m 29 i v) _
    refine y_ige (t := 20) rfl rfl rfl (fun h7 => ?_) (fun h7 => ?_)
    · show yP (xg xs) d 21 20 [(3, .int (4172 : Int32)), (2, .int (nI i)), (0, .ref 29), (1, .int v)] [] (y_fill m 29 i v) _
      exact y_ret rfl rfl rfl rfl (⟨rfl, by rw [hi2]⟩)
    · exact absurd (by rw [hi2]; exact Int32.le_refl _) h7
  | succ q ih =>
    intro i hi
    have hi2 : i < 4172 := by omega
    refine y_st rfl rfl rfl rfl rfl (fun _ _ => rfl) ?_
    refine y_st rfl rfl rfl rfl rfl (fun _ _ => rfl) ?_
    show yP (xg xs) d 21 7 [(3, .int (4172 : Int32)), (2, .int (nI i)), (0, .ref 29), (1, .int v)] [.int (4172 : Int32), .int (nI i)] (y_fill m 29 i v) _
    refine y_ige (t := 20) rfl rfl rfl (fun h7 => ?_) (fun h7 => ?_)
    · exact absurd h7 (nI_ge (b := 4172) hi2 (by decide))
    · refine y_st rfl rfl rfl rfl rfl (fun _ _ => rfl) ?_
      refine y_st rfl rfl rfl rfl rfl (fun _ _ => rfl) ?_
      refine y_st rfl rfl rfl rfl rfl (fun _ _ => rfl) ?_
      show yP (xg xs) d 21 13 [(3, .int (4172 : Int32)), (2, .int (nI i)), (0, .ref 29), (1, .int v)] [.int v, .int (nI i), .ref 29] (y_fill m 29 i v) _
      refine y_iast rfl rfl rfl (x_in_nI hi2 (by decide)) ?_
      refine y_st rfl rfl rfl rfl rfl (fun _ _ => rfl) ?_
      refine y_st rfl rfl rfl rfl rfl (fun _ _ => rfl) ?_
      show yP (xg xs) d 21 5 [(2, .int ((nI i) + (1 : Int32))), (3, .int (4172 : Int32)), (0, .ref 29), (1, .int v)] [] (y_si (y_fill m 29 i v) 29 ((nI i).toNatClampNeg) v) _
      refine y_head (l2 := [(3, .int (4172 : Int32)), (2, .int ((nI i) + (1 : Int32))), (0, .ref 29), (1, .int v)]) [1, 0, 2, 3] [3, 2, 0, 1] 4 rfl (by decide) rfl rfl (by decide) ?_
      rw [nI_clamp (by omega), y_fill_s, nI_1]; exact ih (i + 1) (by omega)
set_option maxRecDepth 20000 in
/-- Arrays.fill of array 29 -/
theorem c21_29 (xs : List Int32) (d : Nat) (m : yM) (v : Int32) : yC (xg xs) d 21 [.ref 29, .int v] m (fun r m' => r = none ∧ m' = y_fill m 29 4172 v) := by
  refine y_st rfl rfl rfl rfl rfl (fun _ _ => rfl) ?_
  refine y_st rfl rfl rfl rfl rfl (fun _ _ => rfl) ?_
  refine y_st rfl rfl rfl rfl rfl (fun _ _ => rfl) ?_
  refine y_st rfl rfl rfl rfl rfl (fun _ _ => rfl) ?_
  refine y_st rfl rfl rfl rfl rfl (fun _ _ => rfl) ?_
  show yP (xg xs) d 21 5 [(3, .int (4172 : Int32)), (2, .int (0 : Int32)), (0, .ref 29), (1, .int v)] [] m _
  refine y_head (l2 := [(3, .int (4172 : Int32)), (2, .int (0 : Int32)), (0, .ref 29), (1, .int v)]) [0, 1, 2, 3] [3, 2, 0, 1] 4 rfl (by decide) rfl rfl (by decide) ?_
  have z := c21_29L xs d m v 4172 0 (by omega); rw [y_fill_0] at z; exact z
set_option maxRecDepth 20000 in
/-- Arrays.fill, its loop, of array 30 -/
theorem c21_30L (xs : List Int32) (d : Nat) (m : yM) (v : Int32) : ∀ (q : Nat) (i : Nat), i + q = 4172 → yP (xg xs) d 21 5 [(3, .int (4172 : Int32)), (2, .int (nI i)), (0, .ref 30), (1, .int v)] [] (y_fill m 30 i v) (fun r m' => r = none ∧ m' = y_fill m 30 4172 v) := by
  intro q
  induction q with
  | zero =>
    intro i hi
    have hi2 : i = 4172 := by omega
    refine y_st rfl rfl rfl rfl rfl (fun _ _ => rfl) ?_
    refine y_st rfl rfl rfl rfl rfl (fun _ _ => rfl) ?_
    show yP (xg xs) d 21 7 [(3, .int (4172 : Int32)), (2, .int (nI i)), (0, .ref 30), (1, .int v)] [.int (4172 : Int32), .int (nI i)] (y_fill m 30 i v) _
    refine y_ige (t := 20) rfl rfl rfl (fun h7 => ?_) (fun h7 => ?_)
    · show yP (xg xs) d 21 20 [(3, .int (4172 : Int32)), (2, .int (nI i)), (0, .ref 30), (1, .int v)] [] (y_fill m 30 i v) _
      exact y_ret rfl rfl rfl rfl (⟨rfl, by rw [hi2]⟩)
    · exact absurd (by rw [hi2]; exact Int32.le_refl _) h7
  | succ q ih =>
    intro i hi
    have hi2 : i < 4172 := by omega
    refine y_st rfl rfl rfl rfl rfl (fun _ _ => rfl) ?_
    refine y_st rfl rfl rfl rfl rfl (fun _ _ => rfl) ?_
    show yP (xg xs) d 21 7 [(3, .int (4172 : Int32)), (2, .int (nI i)), (0, .ref 30), (1, .int v)] [.int (4172 : Int32), .int (nI i)] (y_fill m 30 i v) _
    refine y_ige (t := 20) rfl rfl rfl (fun h7 => ?_) (fun h7 => ?_)
    · exact absurd h7 (nI_ge (b := 4172) hi2 (by decide))
    · refine y_st rfl rfl rfl rfl rfl (fun _ _ => rfl) ?_
      refine y_st rfl rfl rfl rfl rfl (fun _ _ => rfl) ?_
      refine y_st rfl rfl rfl rfl rfl (fun _ _ => rfl) ?_
      show yP (xg xs) d 21 13 [(3, .int (4172 : Int32)), (2, .int (nI i)), (0, .ref 30), (1, .int v)] [.int v, .int (nI i), .ref 30] (y_fill m 30 i v) _
      refine y_iast rfl rfl rfl (x_in_nI hi2 (by decide)) ?_
      refine y_st rfl rfl rfl rfl rfl (fun _ _ => rfl) ?_
      refine y_st rfl rfl rfl rfl rfl (fun _ _ => rfl) ?_
      show yP (xg xs) d 21 5 [(2, .int ((nI i) + (1 : Int32))), (3, .int (4172 : Int32)), (0, .ref 30), (1, .int v)] [] (y_si (y_fill m 30 i v) 30 ((nI i).toNatClampNeg) v) _
      refine y_head (l2 := [(3, .int (4172 : Int32)), (2, .int ((nI i) + (1 : Int32))), (0, .ref 30), (1, .int v)]) [1, 0, 2, 3] [3, 2, 0, 1] 4 rfl (by decide) rfl rfl (by decide) ?_
      rw [nI_clamp (by omega), y_fill_s, nI_1]; exact ih (i + 1) (by omega)
set_option maxRecDepth 20000 in
/-- Arrays.fill of array 30 -/
theorem c21_30 (xs : List Int32) (d : Nat) (m : yM) (v : Int32) : yC (xg xs) d 21 [.ref 30, .int v] m (fun r m' => r = none ∧ m' = y_fill m 30 4172 v) := by
  refine y_st rfl rfl rfl rfl rfl (fun _ _ => rfl) ?_
  refine y_st rfl rfl rfl rfl rfl (fun _ _ => rfl) ?_
  refine y_st rfl rfl rfl rfl rfl (fun _ _ => rfl) ?_
  refine y_st rfl rfl rfl rfl rfl (fun _ _ => rfl) ?_
  refine y_st rfl rfl rfl rfl rfl (fun _ _ => rfl) ?_
  show yP (xg xs) d 21 5 [(3, .int (4172 : Int32)), (2, .int (0 : Int32)), (0, .ref 30), (1, .int v)] [] m _
  refine y_head (l2 := [(3, .int (4172 : Int32)), (2, .int (0 : Int32)), (0, .ref 30), (1, .int v)]) [0, 1, 2, 3] [3, 2, 0, 1] 4 rfl (by decide) rfl rfl (by decide) ?_
  have z := c21_30L xs d m v 4172 0 (by omega); rw [y_fill_0] at z; exact z
set_option maxRecDepth 20000 in
/-- Arrays.fill, its loop, of array 53 -/
theorem c21_53L (xs : List Int32) (d : Nat) (m : yM) (v : Int32) : ∀ (q : Nat) (i : Nat), i + q = 8192 → yP (xg xs) d 21 5 [(3, .int (8192 : Int32)), (2, .int (nI i)), (0, .ref 53), (1, .int v)] [] (y_fill m 53 i v) (fun r m' => r = none ∧ m' = y_fill m 53 8192 v) := by
  intro q
  induction q with
  | zero =>
    intro i hi
    have hi2 : i = 8192 := by omega
    refine y_st rfl rfl rfl rfl rfl (fun _ _ => rfl) ?_
    refine y_st rfl rfl rfl rfl rfl (fun _ _ => rfl) ?_
    show yP (xg xs) d 21 7 [(3, .int (8192 : Int32)), (2, .int (nI i)), (0, .ref 53), (1, .int v)] [.int (8192 : Int32), .int (nI i)] (y_fill m 53 i v) _
    refine y_ige (t := 20) rfl rfl rfl (fun h7 => ?_) (fun h7 => ?_)
    · show yP (xg xs) d 21 20 [(3, .int (8192 : Int32)), (2, .int (nI i)), (0, .ref 53), (1, .int v)] [] (y_fill m 53 i v) _
      exact y_ret rfl rfl rfl rfl (⟨rfl, by rw [hi2]⟩)
    · exact absurd (by rw [hi2]; exact Int32.le_refl _) h7
  | succ q ih =>
    intro i hi
    have hi2 : i < 8192 := by omega
    refine y_st rfl rfl rfl rfl rfl (fun _ _ => rfl) ?_
    refine y_st rfl rfl rfl rfl rfl (fun _ _ => rfl) ?_
    show yP (xg xs) d 21 7 [(3, .int (8192 : Int32)), (2, .int (nI i)), (0, .ref 53), (1, .int v)] [.int (8192 : Int32), .int (nI i)] (y_fill m 53 i v) _
    refine y_ige (t := 20) rfl rfl rfl (fun h7 => ?_) (fun h7 => ?_)
    · exact absurd h7 (nI_ge (b := 8192) hi2 (by decide))
    · refine y_st rfl rfl rfl rfl rfl (fun _ _ => rfl) ?_
      refine y_st rfl rfl rfl rfl rfl (fun _ _ => rfl) ?_
      refine y_st rfl rfl rfl rfl rfl (fun _ _ => rfl) ?_
      show yP (xg xs) d 21 13 [(3, .int (8192 : Int32)), (2, .int (nI i)), (0, .ref 53), (1, .int v)] [.int v, .int (nI i), .ref 53] (y_fill m 53 i v) _
      refine y_iast rfl rfl rfl (x_in_nI hi2 (by decide)) ?_
      refine y_st rfl rfl rfl rfl rfl (fun _ _ => rfl) ?_
      refine y_st rfl rfl rfl rfl rfl (fun _ _ => rfl) ?_
      show yP (xg xs) d 21 5 [(2, .int ((nI i) + (1 : Int32))), (3, .int (8192 : Int32)), (0, .ref 53), (1, .int v)] [] (y_si (y_fill m 53 i v) 53 ((nI i).toNatClampNeg) v) _
      refine y_head (l2 := [(3, .int (8192 : Int32)), (2, .int ((nI i) + (1 : Int32))), (0, .ref 53), (1, .int v)]) [1, 0, 2, 3] [3, 2, 0, 1] 4 rfl (by decide) rfl rfl (by decide) ?_
      rw [nI_clamp (by omega), y_fill_s, nI_1]; exact ih (i + 1) (by omega)
set_option maxRecDepth 20000 in
/-- Arrays.fill of array 53 -/
theorem c21_53 (xs : List Int32) (d : Nat) (m : yM) (v : Int32) : yC (xg xs) d 21 [.ref 53, .int v] m (fun r m' => r = none ∧ m' = y_fill m 53 8192 v) := by
  refine y_st rfl rfl rfl rfl rfl (fun _ _ => rfl) ?_
  refine y_st rfl rfl rfl rfl rfl (fun _ _ => rfl) ?_
  refine y_st rfl rfl rfl rfl rfl (fun _ _ => rfl) ?_
  refine y_st rfl rfl rfl rfl rfl (fun _ _ => rfl) ?_
  refine y_st rfl rfl rfl rfl rfl (fun _ _ => rfl) ?_
  show yP (xg xs) d 21 5 [(3, .int (8192 : Int32)), (2, .int (0 : Int32)), (0, .ref 53), (1, .int v)] [] m _
  refine y_head (l2 := [(3, .int (8192 : Int32)), (2, .int (0 : Int32)), (0, .ref 53), (1, .int v)]) [0, 1, 2, 3] [3, 2, 0, 1] 4 rfl (by decide) rfl rfl (by decide) ?_
  have z := c21_53L xs d m v 8192 0 (by omega); rw [y_fill_0] at z; exact z
theorem y_cret {G : xG} {d y pc len : Nat} {lv : xL} {m : yM} {Q : Option Value → yM → Prop} {M : xM} {v : Int32} (hc : xcd y pc = some (.ireturn, len)) (hM : xms y = some M) (hr : M.2.2.2.1 = some .char) (hv : narrow .char (.int v) = .int v) (hq : Q (some (.int v)) m) : yP G d y pc lv [.int v] m Q :=
  y_ret hc hM rfl (by rw [hr]; simp [x_ret, hv]) hq
theorem xl_0 : xsb_0.length = 405 := by decide +kernel
/-- letters of the alphabet are what they are as chars and bytes -/
theorem ch_0 : ∀ i, i < 405 → ((xsb_0.getD i 0 &&& 255).toUInt32 % 65536).toInt32 = xsb_0.getD i 0 ∧ (xsb_0.getD i 0).toInt8.toInt32 = xsb_0.getD i 0 := by decide +kernel
theorem cc_0 {i : Nat} (h : i < 405) : narrow .char (.int (xsb_0.getD i 0)) = .int (xsb_0.getD i 0) := by rw [← (ch_0 i h).1]; exact pk_nc _
set_option maxRecDepth 20000 in
/-- String.coder of constant 0 -/
theorem c23_0 (xs : List Int32) (d : Nat) (m : yM)  : yC (xg xs) d 23 [.retAddr 20] m (fun r m' => r = some (.int 0) ∧ m' = m) := by
  refine y_st rfl rfl rfl rfl rfl (fun _ _ => rfl) ?_
  show yP (xg xs) d 23 3 [(0, .retAddr 20)] [.int (1 : Int32)] m _
  refine y_zeq (t := 13) rfl rfl rfl (fun h3 => ?_) (fun h3 => ?_)
  · exact absurd h3 (by decide)
  · refine y_st rfl rfl rfl rfl rfl (fun _ _ => rfl) ?_
    refine y_st rfl rfl rfl rfl rfl (fun _ _ => rfl) ?_
    refine y_st rfl rfl rfl rfl rfl (fun _ _ => rfl) ?_
    show yP (xg xs) d 23 14 [(0, .retAddr 20)] [.int (0 : Int32)] m _
    exact y_ret rfl rfl rfl rfl (⟨rfl, rfl⟩)
set_option maxRecDepth 20000 in
/-- String.length of constant 0 -/
theorem c22_0 (xs : List Int32) (d : Nat) (m : yM)  : yC (xg xs) (d + 1) 22 [.retAddr 20] m (fun r m' => r = some (.int 405) ∧ m' = m) := by
  refine y_st rfl rfl rfl rfl rfl (fun _ _ => rfl) ?_
  refine y_st rfl rfl rfl rfl rfl (fun _ _ => rfl) ?_
  refine y_st rfl rfl rfl rfl rfl (fun _ _ => rfl) ?_
  refine y_st rfl rfl rfl rfl rfl (fun _ _ => rfl) ?_
  show yP (xg xs) (d + 1) 22 6 [(0, .retAddr 20)] [.retAddr 20, .int (405 : Int32)] m _
  refine y_call rfl rfl rfl rfl rfl (Nat.le_of_ble_eq_true rfl) (Nat.le_of_ble_eq_true rfl) rfl (by decide) (c23_0 xs d m) (fun v1 m1 q1 => ?_)
  obtain ⟨rfl, e1⟩ := q1; rw [e1]; clear e1
  refine y_st rfl rfl rfl rfl rfl (fun _ _ => rfl) ?_
  show yP (xg xs) (d + 1) 22 10 [(0, .retAddr 20)] [.int ((405 : Int32) >>> ((0 : Int32) &&& 31))] m _
  exact y_iret rfl rfl rfl (⟨congrArg (fun z => some (Value.int z)) (by decide), rfl⟩)
set_option maxRecDepth 20000 in
/-- String.isLatin1 of constant 0 -/
theorem c25_0 (xs : List Int32) (d : Nat) (m : yM)  : yC (xg xs) d 25 [.retAddr 20] m (fun r m' => r = some (.int 1) ∧ m' = m) := by
  refine y_st rfl rfl rfl rfl rfl (fun _ _ => rfl) ?_
  show yP (xg xs) d 25 3 [(0, .retAddr 20)] [.int (1 : Int32)] m _
  refine y_zeq (t := 17) rfl rfl rfl (fun h3 => ?_) (fun h3 => ?_)
  · exact absurd h3 (by decide)
  · refine y_st rfl rfl rfl rfl rfl (fun _ _ => rfl) ?_
    refine y_st rfl rfl rfl rfl rfl (fun _ _ => rfl) ?_
    show yP (xg xs) d 25 10 [(0, .retAddr 20)] [.int (0 : Int32)] m _
    refine y_zne (t := 17) rfl rfl rfl (fun h10 => ?_) (fun h10 => ?_)
    · exact absurd h10 (by decide)
    · refine y_st rfl rfl rfl rfl rfl (fun _ _ => rfl) ?_
      refine y_st rfl rfl rfl rfl rfl (fun _ _ => rfl) ?_
      show yP (xg xs) d 25 18 [(0, .retAddr 20)] [.int (1 : Int32)] m _
      exact y_zret rfl rfl rfl (by decide) (⟨rfl, rfl⟩)
set_option maxRecDepth 20000 in
/-- Preconditions.checkIndex -/
theorem c28_0 (xs : List Int32) (d : Nat) (m : yM) (k : Nat) (hk : k < 405) : yC (xg xs) d 28 [.int (nI k), .int (405 : Int32), .retAddr 0] m (fun r m' => r = some (.int (nI k)) ∧ m' = m) := by
  refine y_st rfl rfl rfl rfl rfl (fun _ _ => rfl) ?_
  show yP (xg xs) d 28 1 [(0, .int (nI k)), (1, .int (405 : Int32)), (2, .retAddr 0)] [.int (nI k)] m _
  refine y_zlt (t := 9) rfl rfl rfl (fun h1 => ?_) (fun h1 => ?_)
  · exact absurd h1 (nI_pos (by omega))
  · refine y_st rfl rfl rfl rfl rfl (fun _ _ => rfl) ?_
    refine y_st rfl rfl rfl rfl rfl (fun _ _ => rfl) ?_
    show yP (xg xs) d 28 6 [(0, .int (nI k)), (1, .int (405 : Int32)), (2, .retAddr 0)] [.int (405 : Int32), .int (nI k)] m _
    refine y_ilt (t := 16) rfl rfl rfl (fun h6 => ?_) (fun h6 => ?_)
    · refine y_st rfl rfl rfl rfl rfl (fun _ _ => rfl) ?_
      show yP (xg xs) d 28 17 [(0, .int (nI k)), (1, .int (405 : Int32)), (2, .retAddr 0)] [.int (nI k)] m _
      exact y_iret rfl rfl rfl (⟨rfl, rfl⟩)
    · exact absurd (nI_lt (b := 405) hk (by decide)) h6
set_option maxRecDepth 20000 in
/-- String.checkIndex -/
theorem c27_0 (xs : List Int32) (d : Nat) (m : yM) (k : Nat) (hk : k < 405) : yC (xg xs) (d + 1) 27 [.int (nI k), .int (405 : Int32)] m (fun r m' => r = none ∧ m' = m) := by
  refine y_st rfl rfl rfl rfl rfl (fun _ _ => rfl) ?_
  refine y_st rfl rfl rfl rfl rfl (fun _ _ => rfl) ?_
  refine y_st rfl rfl rfl rfl rfl (fun _ _ => rfl) ?_
  show yP (xg xs) (d + 1) 27 5 [(0, .int (nI k)), (1, .int (405 : Int32))] [.retAddr 0, .int (405 : Int32), .int (nI k)] m _
  refine y_call rfl rfl rfl rfl rfl (Nat.le_of_ble_eq_true rfl) (Nat.le_of_ble_eq_true rfl) rfl (by decide) (c28_0 xs d m k hk) (fun v1 m1 q1 => ?_)
  obtain ⟨rfl, e1⟩ := q1; rw [e1]; clear e1
  refine y_st rfl rfl rfl rfl rfl (fun _ _ => rfl) ?_
  show yP (xg xs) (d + 1) 27 9 [(0, .int (nI k)), (1, .int (405 : Int32))] [] m _
  exact y_ret rfl rfl rfl rfl (⟨rfl, rfl⟩)
set_option maxRecDepth 20000 in
/-- StringLatin1.charAt of constant 0 -/
theorem c26_0 (xs : List Int32) (d : Nat) (m : yM) (k : Nat) (hk : k < 405) : yC (xg xs) (d + 2) 26 [.retAddr 60, .int (nI k)] m (fun r m' => r = some (.int (xsb_0.getD k 0)) ∧ m' = m) := by
  refine y_st rfl rfl rfl rfl rfl (fun _ _ => rfl) ?_
  refine y_st rfl rfl rfl rfl rfl (fun _ _ => rfl) ?_
  refine y_st rfl rfl rfl rfl rfl (fun _ _ => rfl) ?_
  show yP (xg xs) (d + 2) 26 3 [(0, .retAddr 60), (1, .int (nI k))] [.int (405 : Int32), .int (nI k)] m _
  refine y_call rfl rfl rfl rfl rfl (Nat.le_of_ble_eq_true rfl) (Nat.le_of_ble_eq_true rfl) rfl (by decide) (c27_0 xs d m k hk) (fun v1 m1 q1 => ?_)
  obtain ⟨rfl, e1⟩ := q1; rw [e1]; clear e1
  refine y_st rfl rfl rfl rfl rfl (fun _ _ => rfl) ?_
  refine y_st rfl rfl rfl rfl rfl (fun _ _ => rfl) ?_
  show yP (xg xs) (d + 2) 26 8 [(0, .retAddr 60), (1, .int (nI k))] [.int (nI k), .retAddr 60] m _
  refine y_cbald rfl rfl rfl (by rw [xl_0]; exact x_in_nI hk (by decide)) ?_
  refine y_st rfl rfl rfl rfl rfl (fun _ _ => rfl) ?_
  refine y_st rfl rfl rfl rfl rfl (fun _ _ => rfl) ?_
  refine y_st rfl rfl rfl rfl rfl (fun _ _ => rfl) ?_
  show yP (xg xs) (d + 2) 26 14 [(0, .retAddr 60), (1, .int (nI k))] [.int (((((xsb_0).getD (nI k).toNatClampNeg 0) &&& (255 : Int32)).toUInt32 % 65536).toInt32)] m _
  exact y_cret rfl rfl rfl (pk_nc _) (by rw [nI_clamp (by omega), (ch_0 k hk).1]; exact ⟨rfl, rfl⟩)
set_option maxRecDepth 20000 in
/-- String.charAt of constant 0 -/
theorem c24_0 (xs : List Int32) (d : Nat) (m : yM) (k : Nat) (hk : k < 405) : yC (xg xs) (d + 3) 24 [.retAddr 20, .int (nI k)] m (fun r m' => r = some (.int (xsb_0.getD k 0)) ∧ m' = m) := by
  refine y_st rfl rfl rfl rfl rfl (fun _ _ => rfl) ?_
  show yP (xg xs) (d + 3) 24 1 [(0, .retAddr 20), (1, .int (nI k))] [.retAddr 20] m _
  refine y_call rfl rfl rfl rfl rfl (Nat.le_of_ble_eq_true rfl) (Nat.le_of_ble_eq_true rfl) rfl (by decide) (yC.mono (Nat.zero_le _) (fun _ _ z => z) (c25_0 xs 0 m)) (fun v1 m1 q1 => ?_)
  obtain ⟨rfl, e1⟩ := q1; rw [e1]; clear e1
  show yP (xg xs) (d + 3) 24 4 [(0, .retAddr 20), (1, .int (nI k))] [.int (1 : Int32)] m _
  refine y_zeq (t := 16) rfl rfl rfl (fun h4 => ?_) (fun h4 => ?_)
  · exact absurd h4 (by decide)
  · refine y_st rfl rfl rfl rfl rfl (fun _ _ => rfl) ?_
    refine y_st rfl rfl rfl rfl rfl (fun _ _ => rfl) ?_
    refine y_st rfl rfl rfl rfl rfl (fun _ _ => rfl) ?_
    show yP (xg xs) (d + 3) 24 12 [(0, .retAddr 20), (1, .int (nI k))] [.int (nI k), .retAddr 60] m _
    refine y_call rfl rfl rfl rfl rfl (Nat.le_of_ble_eq_true rfl) (Nat.le_of_ble_eq_true rfl) rfl (by decide) (c26_0 xs d m k hk) (fun v2 m2 q2 => ?_)
    obtain ⟨rfl, e2⟩ := q2; rw [e2]; clear e2
    show yP (xg xs) (d + 3) 24 15 [(0, .retAddr 20), (1, .int (nI k))] [.int (xsb_0.getD k 0)] m _
    exact y_cret rfl rfl rfl (cc_0 hk) (⟨rfl, rfl⟩)
