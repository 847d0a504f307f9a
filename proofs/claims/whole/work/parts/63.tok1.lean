/-! TOKENS OF THE CLASS: laid by wip/gen/small17.py -/
/-! LETTERS AND DIGITS as natural numbers -/
def gN (c : Nat) : Nat := if 97 ≤ c ∧ c ≤ 122 then c - 32 else c
abbrev isDN (c : Nat) : Prop := 48 ≤ c ∧ c ≤ 57
abbrev isLN (c : Nat) : Prop := (65 ≤ gN c ∧ gN c ≤ 90) ∨ c = 95
abbrev isPN (c : Nat) : Prop := isLN c ∨ isDN c
/-- what a byte means as a digit, or 99 -/
def dN (c : Nat) : Nat := if isDN c then c - 48 else if 65 ≤ gN c ∧ gN c ≤ 70 then gN c - 55 else 99
theorem gr_N : ∀ c, c < 256 → gr_ (nI c) = nI (gN c) := by decide +kernel
theorem isD_N : ∀ c, c < 256 → (isD (nI c) ↔ isDN c) := by decide +kernel
theorem isL_N : ∀ c, c < 256 → (isL (nI c) ↔ isLN c) := by decide +kernel
theorem nB_N : ∀ c, c < 256 → (nB_ (nI c) ↔ isPN c) := by decide +kernel
theorem do_N : ∀ c, c < 256 → do_ (nI c) = nI (dN c) := by decide +kernel
theorem dm_N : ∀ c, c < 256 → dm_ (nI c) = if dN c = 99 then -1 else nI (dN c) := by decide +kernel
theorem dN_le : ∀ c, c < 256 → dN c ≤ 15 ∨ dN c = 99 := by decide +kernel
theorem gN_lt : ∀ c, c < 256 → gN c < 256 := by decide +kernel
theorem nB_m1 : ¬ nB_ (-1) := by decide +kernel
theorem gr_m1 : gr_ (-1) = -1 := by decide +kernel
theorem dm_m1 : dm_ (-1) = -1 := by decide +kernel
/-- from i on, as far as P goes, in at most q steps -/
def rn (f : Nat → Nat) (P : Nat → Bool) : Nat → Nat → Nat
  | 0, i => i
  | q + 1, i => if P (f i) then rn f P q (i + 1) else i
theorem rn_le (f : Nat → Nat) (P : Nat → Bool) : ∀ q i, i ≤ rn f P q i ∧ rn f P q i ≤ i + q
  | 0, i => ⟨Nat.le_refl _, Nat.le_refl _⟩
  | q + 1, i => by
    have h := rn_le f P q (i + 1)
    unfold rn
    split <;> omega
theorem rn_in (f : Nat → Nat) (P : Nat → Bool) : ∀ q i e, i ≤ e → e < rn f P q i → P (f e) = true
  | 0, i, e, h1, h2 => by unfold rn at h2; omega
  | q + 1, i, e, h1, h2 => by
    unfold rn at h2
    split at h2
    · rename_i hp
      by_cases h : e = i
      · rw [h]; exact hp
      · exact rn_in f P q (i + 1) e (by omega) h2
    · omega
theorem rn_end (f : Nat → Nat) (P : Nat → Bool) : ∀ q i, rn f P q i < i + q → P (f (rn f P q i)) = false
  | 0, i, h => by unfold rn at h; omega
  | q + 1, i, h => by
    unfold rn at h ⊢
    split
    · rename_i hp
      rw [if_pos hp] at h
      exact rn_end f P q (i + 1) (by omega)
    · rename_i hp
      simpa using hp
/-- the number that digits spell -/
def dv (f : Nat → Nat) (b : Nat) : Nat → Nat → Nat → Nat
  | 0, _, a => a
  | q + 1, i, a => if dN (f i) < b then dv f b q (i + 1) (a * b + dN (f i)) else a
theorem dv_mono (f : Nat → Nat) (b : Nat) (hb : 1 ≤ b) : ∀ q i a, a ≤ dv f b q i a
  | 0, _, a => Nat.le_refl _
  | q + 1, i, a => by
    unfold dv
    split
    · exact Nat.le_trans (by have := Nat.le_mul_of_pos_right a (show 0 < b by omega); omega) (dv_mono f b hb q (i + 1) _)
    · exact Nat.le_refl _
/-- capped, as the class counts -/
theorem cap_step (a b d c : Nat) (hb : 1 ≤ b) : min (min a c * b + d) c = min (a * b + d) c := by
  rcases Nat.le_total a c with h | h
  · rw [Nat.min_eq_left h]
  · rw [Nat.min_eq_right h]
    have h1 : c ≤ c * b := Nat.le_mul_of_pos_right c (by omega)
    have h2 : a ≤ a * b := Nat.le_mul_of_pos_right a (by omega)
    rw [Nat.min_eq_right (by omega), Nat.min_eq_right (by omega)]
/-! TOKENS: the text in pure words -/
/-- the text that is scanned: n bytes f -/
def TX (m : yM) (f : Nat → Nat) (n : Nat) : Prop := ¬ m.1 8 4 = 0 ∧ m.1 8 5 = nI n ∧ n ≤ 8192 ∧ ∀ i, i < n → f i < 256 ∧ m.1 1 i = (nI (f i)).toInt8.toInt32
theorem by8 : ∀ c, c < 256 → (nI c).toInt8.toInt32 &&& 255 = nI c := by decide +kernel
def bc (f : Nat → Nat) (n i : Nat) : Int32 := if i < n then nI (f i) else -1
theorem by8_lo : ∀ k, k < 128 → (nI k).toInt8.toInt32 = nI k := by decide +kernel
theorem by8_eq {k c : Nat} (hk : k < 128) (hc : c < 256) : (nI c).toInt8.toInt32 = nI k ↔ c = k := by
  constructor
  · intro h
    have h1 := by8 c hc
    rw [h] at h1
    have h2 := by8 k (by omega)
    rw [by8_lo k hk, h1] at h2
    exact (nI_eq (by omega) (by omega)).mp h2
  · intro h
    rw [h]
    exact by8_lo k hk
theorem bc_eq {f : Nat → Nat} {n i k : Nat} (hk : k < 256) (hf : i < n → f i < 256) : bc f n i = nI k ↔ i < n ∧ f i = k := by
  unfold bc
  by_cases h : i < n
  · rw [if_pos h, nI_eq (by have := hf h; omega) (by omega)]
    exact ⟨fun z => ⟨h, z⟩, fun z => z.2⟩
  · rw [if_neg h]
    constructor
    · intro z
      exact absurd (show (nI k : Int32) < 0 by rw [← z]; decide) (nI_pos (by omega))
    · intro z
      exact absurd z.1 h
/-- where the remark ends whose letters begin at i -/
def rmk (f : Nat → Nat) : Nat → Nat → Option Nat
  | 0, _ => none
  | q + 1, i => if f i = 42 ∧ f (i + 1) = 41 then some (i + 2) else rmk f q (i + 1)
def rmI : Option Nat → Int32
  | some j => nI j
  | none => -1
theorem rmk_le (f : Nat → Nat) : ∀ q i j, rmk f q i = some j → i + 2 ≤ j ∧ j ≤ i + q + 1
  | 0, i, j, h => by simp [rmk] at h
  | q + 1, i, j, h => by
    unfold rmk at h
    split at h
    · simp only [Option.some.injEq] at h; omega
    · have := rmk_le f q (i + 1) j h; omega
abbrev isB (c : Nat) : Prop := c = 9 ∨ c = 10 ∨ c = 13 ∨ c = 32
/-- behind blanks and remarks; true: a remark that does not end -/
def blk (f : Nat → Nat) (n : Nat) : Nat → Nat → Nat × Bool
  | 0, i => (i, false)
  | q + 1, i => if i < n ∧ isB (f i) then blk f n q (i + 1) else if i + 1 < n ∧ f i = 40 ∧ f (i + 1) = 42 then (match rmk f (n - 1 - (i + 2)) (i + 2) with
    | some j => blk f n q j
    | none => (i, true)) else (i, false)
theorem blk_fuel (f : Nat → Nat) (n : Nat) : ∀ q q' i, n ≤ i + q → n ≤ i + q' → blk f n q i = blk f n q' i
  | 0, 0, i, _, _ => rfl
  | 0, q' + 1, i, h, _ => by
    unfold blk
    rw [if_neg (by omega), if_neg (by omega)]
  | q + 1, 0, i, _, h => by
    unfold blk
    rw [if_neg (by omega), if_neg (by omega)]
  | q + 1, q' + 1, i, h1, h2 => by
    unfold blk
    split
    · exact blk_fuel f n q q' (i + 1) (by omega) (by omega)
    · split
      · split
        · rename_i j hj
          have := rmk_le f _ _ _ hj
          exact blk_fuel f n q q' j (by omega) (by omega)
        · rfl
      · rfl
theorem blk_le (f : Nat → Nat) (n : Nat) : ∀ q i, i ≤ n → i ≤ (blk f n q i).1 ∧ (blk f n q i).1 ≤ n
  | 0, i, h => ⟨Nat.le_refl _, h⟩
  | q + 1, i, h => by
    unfold blk
    split
    · have := blk_le f n q (i + 1) (by omega); omega
    · split
      · split
        · rename_i j hj
          have h1 := rmk_le f _ _ _ hj
          have h2 := blk_le f n q j (by omega)
          omega
        · exact ⟨Nat.le_refl _, h⟩
      · exact ⟨Nat.le_refl _, h⟩
theorem TX.by {m : yM} {f : Nat → Nat} {n i : Nat} (h : TX m f n) (hi : i < 2 ^ 31) : by_ m (nI i) = bc f n i := by
  obtain ⟨-, h5, h8, hf⟩ := h
  unfold by_ bc
  rw [h5]
  by_cases hn : i < n
  · rw [if_pos hn, if_pos ⟨nI_pos' hi, nI_lt hn (by omega)⟩, nI_clamp hi, (hf i hn).2]
    exact by8 _ (hf i hn).1
  · rw [if_neg hn, if_neg (fun z => hn ((nI_ltI hi (by omega)).mp z.2))]
theorem TX.hB {m : yM} {f : Nat → Nat} {n : Nat} (h : TX m f n) : (m.1 8 5).toInt ≤ 8192 := by
  obtain ⟨-, h5, h8, -⟩ := h
  rw [h5, nI_toInt (by omega)]
  omega
theorem TX.si {m : yM} {f : Nat → Nat} {n : Nat} (h : TX m f n) {k i : Nat} {v : Int32} (hk : k ≠ 1) (hi : k ≠ 8 ∨ (i ≠ 4 ∧ i ≠ 5)) : TX (y_si m k i v) f n := by
  obtain ⟨h1, h5, h8, hf⟩ := h
  refine ⟨?_, ?_, h8, fun j hj => ⟨(hf j hj).1, ?_⟩⟩
  · rw [y_si_at, if_neg (by omega)]; exact h1
  · rw [y_si_at, if_neg (by omega)]; exact h5
  · rw [y_si_at, if_neg (by omega)]; exact (hf j hj).2
theorem c36x (xs : List Int32) (d : Nat) (m : yM) {f : Nat → Nat} {n : Nat} (h : TX m f n) (i : Nat) (hi : i < 2 ^ 31) : yC (xg xs) d 36 [.ref 8, .int (nI i)] m (fun r m' => r = some (.int (bc f n i)) ∧ m' = m) := by
  rw [← h.by hi]
  exact c36 xs d m (nI i) h.1 h.hB
set_option maxRecDepth 20000 in
/-- Tokens.behindRemark, its loop -/
theorem c37L (xs : List Int32) (d : Nat) (m : yM) {f : Nat → Nat} {n : Nat} (h : TX m f n) (a : Int32) : ∀ (q : Nat) (i : Nat), q = n - 1 - i → i ≤ 8200 → yP (xg xs) d 37 2 [(2, .int (nI i)), (0, .ref 8), (1, .int a)] [] m (fun r m' => (r = some (.int (rmI (rmk f q i))) ∧ m' = m)) := by
  have ht := h.1
  have h5 := h.2.1
  have h8 := h.2.2.1
  have hf := h.2.2.2
  intro q
  induction q with
  | zero =>
    intro i hq hi
    have e1 : nI i + 1 = nI (i + 1) := nI_1 i
    refine y_st rfl rfl rfl rfl rfl (fun _ _ => rfl) ?_
    refine y_st rfl rfl rfl rfl rfl (fun _ _ => rfl) ?_
    refine y_st rfl rfl rfl rfl rfl (fun _ _ => rfl) ?_
    refine y_st rfl rfl rfl rfl rfl (fun _ _ => rfl) ?_
    refine y_gf rfl rfl rfl rfl rfl ?_
    show yP (xg xs) d 37 9 [(2, .int (nI i)), (0, .ref 8), (1, .int a)] [.int (m.1 8 5), .int ((nI i) + (1 : Int32))] m _
    refine y_ige (t := 46) rfl rfl rfl (fun h9 => ?_) (fun h9 => ?_)
    · refine y_st rfl rfl rfl rfl rfl (fun _ _ => rfl) ?_
      show yP (xg xs) d 37 47 [(2, .int (nI i)), (0, .ref 8), (1, .int a)] [.int ((-1) : Int32)] m _
      exact y_iret rfl rfl rfl (⟨rfl, rfl⟩)
    · exact absurd (by rw [e1, h5]; exact nI_le (by omega) (by omega)) h9
  | succ q ih =>
    intro i hq hi
    have e1 : nI i + 1 = nI (i + 1) := nI_1 i
    have hi1 : i + 1 < n := by omega
    have e2 : (nI i).toNatClampNeg = i := nI_clamp (by omega)
    have e3 : (nI i + 1).toNatClampNeg = i + 1 := by rw [e1]; exact nI_clamp (by omega)
    have g1 := hf i (by omega)
    have g2 := hf (i + 1) hi1
    have hs : rmk f (q + 1) i = if f i = 42 ∧ f (i + 1) = 41 then some (i + 2) else rmk f q (i + 1) := rfl
    refine y_st rfl rfl rfl rfl rfl (fun _ _ => rfl) ?_
    refine y_st rfl rfl rfl rfl rfl (fun _ _ => rfl) ?_
    refine y_st rfl rfl rfl rfl rfl (fun _ _ => rfl) ?_
    refine y_st rfl rfl rfl rfl rfl (fun _ _ => rfl) ?_
    refine y_gf rfl rfl rfl rfl rfl ?_
    show yP (xg xs) d 37 9 [(2, .int (nI i)), (0, .ref 8), (1, .int a)] [.int (m.1 8 5), .int ((nI i) + (1 : Int32))] m _
    refine y_ige (t := 46) rfl rfl rfl (fun h9 => ?_) (fun h9 => ?_)
    · exact absurd h9 (by rw [e1, h5]; exact nI_ge hi1 (by omega))
    · refine y_st rfl rfl rfl rfl rfl (fun _ _ => rfl) ?_
      refine y_gf rfl rfl rfl rfl rfl ?_
      rw [show y_v _ 8 _ (.retAddr 1) = .ref 1 from if_neg (ht)]
      refine y_st rfl rfl rfl rfl rfl (fun _ _ => rfl) ?_
      show yP (xg xs) d 37 17 [(2, .int (nI i)), (0, .ref 8), (1, .int a)] [.int (nI i), .ref 1] m _
      refine y_bald rfl rfl rfl (by decide) (x_in_nI (by omega) (by decide)) ?_
      refine y_st rfl rfl rfl rfl rfl (fun _ _ => rfl) ?_
      show yP (xg xs) d 37 20 [(2, .int (nI i)), (0, .ref 8), (1, .int a)] [.int (42 : Int32), .int (m.1 1 ((nI i).toNatClampNeg))] m _
      refine y_ine (t := 40) rfl rfl rfl (fun h20 => ?_) (fun h20 => ?_)
      · rw [e2, g1.2] at h20
        have k1 : ¬ f i = 42 := fun z => h20 ((by8_eq (by decide) g1.1).mpr z)
        refine y_st rfl rfl rfl rfl rfl (fun _ _ => rfl) ?_
        refine y_st rfl rfl rfl rfl rfl (fun _ _ => rfl) ?_
        show yP (xg xs) d 37 2 [(2, .int ((nI i) + (1 : Int32))), (0, .ref 8), (1, .int a)] [] m _
        refine y_head (l2 := [(2, .int ((nI i) + (1 : Int32))), (0, .ref 8), (1, .int a)]) [0, 1, 2] [2, 0, 1] 3 rfl (by decide) rfl rfl (by decide) ?_
        rw [e1, hs]; first | (rw [if_neg (fun z => k1 z.1)]; exact ih (i + 1) (by omega) (by omega)) | (rw [if_neg (fun z => k2 z.2)]; exact ih (i + 1) (by omega) (by omega))
      · rw [e2, g1.2] at h20
        have k1 : f i = 42 := (by8_eq (k := 42) (by decide) g1.1).mp h20
        refine y_st rfl rfl rfl rfl rfl (fun _ _ => rfl) ?_
        refine y_gf rfl rfl rfl rfl rfl ?_
        rw [show y_v _ 8 _ (.retAddr 1) = .ref 1 from if_neg (ht)]
        refine y_st rfl rfl rfl rfl rfl (fun _ _ => rfl) ?_
        refine y_st rfl rfl rfl rfl rfl (fun _ _ => rfl) ?_
        refine y_st rfl rfl rfl rfl rfl (fun _ _ => rfl) ?_
        show yP (xg xs) d 37 30 [(2, .int (nI i)), (0, .ref 8), (1, .int a)] [.int ((nI i) + (1 : Int32)), .ref 1] m _
        refine y_bald rfl rfl rfl (by decide) (by rw [e1]; exact x_in_nI (by omega) (by decide)) ?_
        refine y_st rfl rfl rfl rfl rfl (fun _ _ => rfl) ?_
        show yP (xg xs) d 37 33 [(2, .int (nI i)), (0, .ref 8), (1, .int a)] [.int (41 : Int32), .int (m.1 1 (((nI i) + (1 : Int32)).toNatClampNeg))] m _
        refine y_ine (t := 40) rfl rfl rfl (fun h33 => ?_) (fun h33 => ?_)
        · rw [e3, g2.2] at h33
          have k2 : ¬ f (i + 1) = 41 := fun z => h33 ((by8_eq (by decide) g2.1).mpr z)
          refine y_st rfl rfl rfl rfl rfl (fun _ _ => rfl) ?_
          refine y_st rfl rfl rfl rfl rfl (fun _ _ => rfl) ?_
          show yP (xg xs) d 37 2 [(2, .int ((nI i) + (1 : Int32))), (0, .ref 8), (1, .int a)] [] m _
          refine y_head (l2 := [(2, .int ((nI i) + (1 : Int32))), (0, .ref 8), (1, .int a)]) [0, 1, 2] [2, 0, 1] 3 rfl (by decide) rfl rfl (by decide) ?_
          rw [e1, hs]; first | (rw [if_neg (fun z => k1 z.1)]; exact ih (i + 1) (by omega) (by omega)) | (rw [if_neg (fun z => k2 z.2)]; exact ih (i + 1) (by omega) (by omega))
        · rw [e3, g2.2] at h33
          have k2 : f (i + 1) = 41 := (by8_eq (k := 41) (by decide) g2.1).mp h33
          refine y_st rfl rfl rfl rfl rfl (fun _ _ => rfl) ?_
          refine y_st rfl rfl rfl rfl rfl (fun _ _ => rfl) ?_
          refine y_st rfl rfl rfl rfl rfl (fun _ _ => rfl) ?_
          show yP (xg xs) d 37 39 [(2, .int (nI i)), (0, .ref 8), (1, .int a)] [.int ((nI i) + (2 : Int32))] m _
          exact y_iret rfl rfl rfl (by rw [hs, if_pos ⟨k1, k2⟩]; exact ⟨congrArg (fun z => some (Value.int z)) (nI_add i 2), rfl⟩)
set_option maxRecDepth 20000 in
/-- Tokens.behindRemark -/
theorem c37 (xs : List Int32) (d : Nat) (m : yM) {f : Nat → Nat} {n : Nat} (h : TX m f n) (i : Nat) (hi : i ≤ 8200) : yC (xg xs) d 37 [.ref 8, .int (nI i)] m (fun r m' => r = some (.int (rmI (rmk f (n - 1 - i) i))) ∧ m' = m) := by
  refine y_st rfl rfl rfl rfl rfl (fun _ _ => rfl) ?_
  refine y_st rfl rfl rfl rfl rfl (fun _ _ => rfl) ?_
  show yP (xg xs) d 37 2 [(2, .int (nI i)), (0, .ref 8), (1, .int (nI i))] [] m _
  refine y_head (l2 := [(2, .int (nI i)), (0, .ref 8), (1, .int (nI i))]) [0, 1, 2] [2, 0, 1] 3 rfl (by decide) rfl rfl (by decide) ?_
  exact c37L xs d m h (nI i) (n - 1 - i) i rfl hi
set_option maxRecDepth 20000 in
/-- Tokens.bad -/
theorem c38 (xs : List Int32) (d : Nat) (m : yM) (a b : Int32) (k : Nat) (hk : m.1 8 6 = nI k) (h : k ≤ 8192) : yC (xg xs) (d + 1) 38 [.ref 8, .int a, .int b] m (fun r m' => r = some (.int (m.1 8 5)) ∧ m' = y_si (tkAdd m k 68 b a) 8 8 1) := by
  refine y_st rfl rfl rfl rfl rfl (fun _ _ => rfl) ?_
  refine y_st rfl rfl rfl rfl rfl (fun _ _ => rfl) ?_
  refine y_st rfl rfl rfl rfl rfl (fun _ _ => rfl) ?_
  refine y_st rfl rfl rfl rfl rfl (fun _ _ => rfl) ?_
  show yP (xg xs) (d + 1) 38 5 [(0, .ref 8), (1, .int a), (2, .int b)] [.int a, .int b, .int (68 : Int32), .ref 8] m _
  refine y_call rfl rfl rfl rfl rfl (Nat.le_of_ble_eq_true rfl) (Nat.le_of_ble_eq_true rfl) rfl (by decide) (c39 xs d m (68 : Int32) b a k hk h) (fun v1 m1 q1 => ?_)
  obtain ⟨rfl, e1⟩ := q1; rw [e1]; clear e1
  refine y_st rfl rfl rfl rfl rfl (fun _ _ => rfl) ?_
  refine y_st rfl rfl rfl rfl rfl (fun _ _ => rfl) ?_
  refine y_pfi rfl rfl rfl rfl rfl (x_fit_z (by decide)) ?_
  show yP (xg xs) (d + 1) 38 13 [(0, .ref 8), (1, .int a), (2, .int b)] [] (y_si (tkAdd m k (68 : Int32) b a) 8 8 (1 : Int32)) _
  refine y_st rfl rfl rfl rfl rfl (fun _ _ => rfl) ?_
  refine y_gf rfl rfl rfl rfl rfl ?_
  show yP (xg xs) (d + 1) 38 17 [(0, .ref 8), (1, .int a), (2, .int b)] [.int ((tkAdd m k (68 : Int32) b a).1 8 5)] (y_si (tkAdd m k (68 : Int32) b a) 8 8 (1 : Int32)) _
  exact y_iret rfl rfl rfl (⟨congrArg (fun z => some (Value.int z)) (by simp [tkAdd, y_si_at]), rfl⟩)
/-- what behindBlanks leaves -/
def blQ (m : yM) (n k : Nat) (x : Nat × Bool) (r : Option Value) (m' : yM) : Prop := if x.2 = true then (r = some (.int (nI n)) ∧ m' = y_si (tkAdd m k 68 (nI x.1) 2) 8 8 1) else (r = some (.int (nI x.1)) ∧ m' = m)
theorem blQ.t {m : yM} {n k i : Nat} {x : Nat × Bool} {r : Option Value} {m' : yM} (hx : x = (i, true)) (hr : r = some (.int (nI n))) (hm : m' = y_si (tkAdd m k 68 (nI i) 2) 8 8 1) : blQ m n k x r m' := by simp [blQ, hx, hr, hm]
theorem blQ.f {m : yM} {n k i : Nat} {x : Nat × Bool} {r : Option Value} {m' : yM} (hx : x = (i, false)) (hr : r = some (.int (nI i))) (hm : m' = m) : blQ m n k x r m' := by simp [blQ, hx, hr, hm]
theorem bc_c {f : Nat → Nat} {n i : Nat} (h : i < n) : bc f n i = nI (f i) := if_pos h
theorem bc_o {f : Nat → Nat} {n i : Nat} (h : ¬ i < n) : bc f n i = -1 := if_neg h
set_option maxRecDepth 20000 in
/-- Tokens.behindBlanks, its loop -/
theorem c35L (xs : List Int32) (d : Nat) (m : yM) {f : Nat → Nat} {n : Nat} (h : TX m f n) (k : Nat) (hk : m.1 8 6 = nI k) (hk2 : k ≤ 8192) (a : Int32) : ∀ (q : Nat) (t i : Nat), t + q = 8192 → i ≤ n → yP (xg xs) (d + 2) 35 4 [(3, .int (nI t)), (2, .int (nI i)), (0, .ref 8), (1, .int a)] [] m (fun r m' => blQ m n k (blk f n q i) r m') := by
  have ht := h.1
  have h5 := h.2.1
  have h8 := h.2.2.1
  have hf := h.2.2.2
  intro q
  induction q with
  | zero =>
    intro t i ht2 hi
    have e0 : t = 8192 := by omega
    refine y_st rfl rfl rfl rfl rfl (fun _ _ => rfl) ?_
    refine y_st rfl rfl rfl rfl rfl (fun _ _ => rfl) ?_
    show yP (xg xs) (d + 2) 35 8 [(3, .int (nI t)), (2, .int (nI i)), (0, .ref 8), (1, .int a)] [.int (8192 : Int32), .int (nI t)] m _
    refine y_ige (t := 107) rfl rfl rfl (fun h8 => ?_) (fun h8 => ?_)
    · refine y_st rfl rfl rfl rfl rfl (fun _ _ => rfl) ?_
      show yP (xg xs) (d + 2) 35 108 [(3, .int (nI t)), (2, .int (nI i)), (0, .ref 8), (1, .int a)] [.int (nI i)] m _
      exact y_iret rfl rfl rfl (blQ.f (show blk f n 0 i = (i, false) from rfl) rfl rfl)
    · exact absurd (by rw [e0]; exact Int32.le_refl _) h8
  | succ q ih =>
    intro t i ht2 hi
    have e0 : t < 8192 := by omega
    have hs : blk f n (q + 1) i = if i < n ∧ isB (f i) then blk f n q (i + 1) else if i + 1 < n ∧ f i = 40 ∧ f (i + 1) = 42 then (match rmk f (n - 1 - (i + 2)) (i + 2) with | some j => blk f n q j | none => (i, true)) else (i, false) := rfl
    refine y_st rfl rfl rfl rfl rfl (fun _ _ => rfl) ?_
    refine y_st rfl rfl rfl rfl rfl (fun _ _ => rfl) ?_
    show yP (xg xs) (d + 2) 35 8 [(3, .int (nI t)), (2, .int (nI i)), (0, .ref 8), (1, .int a)] [.int (8192 : Int32), .int (nI t)] m _
    refine y_ige (t := 107) rfl rfl rfl (fun h8 => ?_) (fun h8 => ?_)
    · exact absurd h8 (nI_ge (b := 8192) e0 (by decide))
    · refine y_st rfl rfl rfl rfl rfl (fun _ _ => rfl) ?_
      refine y_st rfl rfl rfl rfl rfl (fun _ _ => rfl) ?_
      show yP (xg xs) (d + 2) 35 13 [(3, .int (nI t)), (2, .int (nI i)), (0, .ref 8), (1, .int a)] [.int (nI i), .ref 8] m _
      refine y_call rfl rfl rfl rfl rfl (Nat.le_of_ble_eq_true rfl) (Nat.le_of_ble_eq_true rfl) rfl (by decide) (yC.mono (by omega) (fun _ _ z => z) (c36x xs d m h (i) (by omega))) (fun v1 m1 q1 => ?_)
      obtain ⟨rfl, e1⟩ := q1; rw [e1]; clear e1
      refine y_st rfl rfl rfl rfl rfl (fun _ _ => rfl) ?_
      refine y_st rfl rfl rfl rfl rfl (fun _ _ => rfl) ?_
      refine y_st rfl rfl rfl rfl rfl (fun _ _ => rfl) ?_
      show yP (xg xs) (d + 2) 35 22 [(4, .int (bc f n (i))), (3, .int (nI t)), (2, .int (nI i)), (0, .ref 8), (1, .int a)] [.int (9 : Int32), .int (bc f n (i))] m _
      refine y_ieq (t := 46) rfl rfl rfl (fun h22 => ?_) (fun h22 => ?_)
      · have b22 := (bc_eq (k := 9) (by decide) (fun z => (hf i z).1)).mp h22
        refine y_st rfl rfl rfl rfl rfl (fun _ _ => rfl) ?_
        refine y_st rfl rfl rfl rfl rfl (fun _ _ => rfl) ?_
        refine y_st rfl rfl rfl rfl rfl (fun _ _ => rfl) ?_
        refine y_st rfl rfl rfl rfl rfl (fun _ _ => rfl) ?_
        show yP (xg xs) (d + 2) 35 4 [(3, .int ((nI t) + (1 : Int32))), (2, .int ((nI i) + (1 : Int32))), (4, .int (bc f n (i))), (0, .ref 8), (1, .int a)] [] m _
        refine y_headS (l2 := [(3, .int ((nI t) + (1 : Int32))), (2, .int ((nI i) + (1 : Int32))), (0, .ref 8), (1, .int a)]) [0, 1, 3, 4] [3, 2, 0, 1] [3, 2, 4, 0, 1] rfl rfl (by decide) rfl (by decide) ?_
        rw [nI_1, hs]; first | (rw [nI_1, if_pos ⟨by first | exact b22.1 | exact b29.1 | exact b36.1 | exact b43.1, by first | exact Or.inl b22.2 | exact Or.inr (Or.inl b29.2) | exact Or.inr (Or.inr (Or.inl b36.2)) | exact Or.inr (Or.inr (Or.inr b43.2))⟩]; exact ih (t + 1) (i + 1) (by omega) (by first | exact b22.1 | exact b29.1 | exact b36.1 | exact b43.1)) | (rw [if_neg (fun z => by rcases z with ⟨z1, z2 | z2 | z2 | z2⟩; exact b22 ⟨z1, z2⟩; exact b29 ⟨z1, z2⟩; exact b36 ⟨z1, z2⟩; exact b43 ⟨z1, z2⟩), if_pos ⟨b68.1, b56.2, b68.2⟩, hj]; exact ih (t + 1) j (by omega) (by omega))
      · have b22 : ¬ (i < n ∧ f i = 9) := fun z => h22 ((bc_eq (by decide) (fun z => (hf i z).1)).mpr z)
        refine y_st rfl rfl rfl rfl rfl (fun _ _ => rfl) ?_
        refine y_st rfl rfl rfl rfl rfl (fun _ _ => rfl) ?_
        show yP (xg xs) (d + 2) 35 29 [(4, .int (bc f n (i))), (3, .int (nI t)), (2, .int (nI i)), (0, .ref 8), (1, .int a)] [.int (10 : Int32), .int (bc f n (i))] m _
        refine y_ieq (t := 46) rfl rfl rfl (fun h29 => ?_) (fun h29 => ?_)
        · have b29 := (bc_eq (k := 10) (by decide) (fun z => (hf i z).1)).mp h29
          refine y_st rfl rfl rfl rfl rfl (fun _ _ => rfl) ?_
          refine y_st rfl rfl rfl rfl rfl (fun _ _ => rfl) ?_
          refine y_st rfl rfl rfl rfl rfl (fun _ _ => rfl) ?_
          refine y_st rfl rfl rfl rfl rfl (fun _ _ => rfl) ?_
          show yP (xg xs) (d + 2) 35 4 [(3, .int ((nI t) + (1 : Int32))), (2, .int ((nI i) + (1 : Int32))), (4, .int (bc f n (i))), (0, .ref 8), (1, .int a)] [] m _
          refine y_headS (l2 := [(3, .int ((nI t) + (1 : Int32))), (2, .int ((nI i) + (1 : Int32))), (0, .ref 8), (1, .int a)]) [0, 1, 3, 4] [3, 2, 0, 1] [3, 2, 4, 0, 1] rfl rfl (by decide) rfl (by decide) ?_
          rw [nI_1, hs]; first | (rw [nI_1, if_pos ⟨by first | exact b22.1 | exact b29.1 | exact b36.1 | exact b43.1, by first | exact Or.inl b22.2 | exact Or.inr (Or.inl b29.2) | exact Or.inr (Or.inr (Or.inl b36.2)) | exact Or.inr (Or.inr (Or.inr b43.2))⟩]; exact ih (t + 1) (i + 1) (by omega) (by first | exact b22.1 | exact b29.1 | exact b36.1 | exact b43.1)) | (rw [if_neg (fun z => by rcases z with ⟨z1, z2 | z2 | z2 | z2⟩; exact b22 ⟨z1, z2⟩; exact b29 ⟨z1, z2⟩; exact b36 ⟨z1, z2⟩; exact b43 ⟨z1, z2⟩), if_pos ⟨b68.1, b56.2, b68.2⟩, hj]; exact ih (t + 1) j (by omega) (by omega))
        · have b29 : ¬ (i < n ∧ f i = 10) := fun z => h29 ((bc_eq (by decide) (fun z => (hf i z).1)).mpr z)
          refine y_st rfl rfl rfl rfl rfl (fun _ _ => rfl) ?_
          refine y_st rfl rfl rfl rfl rfl (fun _ _ => rfl) ?_
          show yP (xg xs) (d + 2) 35 36 [(4, .int (bc f n (i))), (3, .int (nI t)), (2, .int (nI i)), (0, .ref 8), (1, .int a)] [.int (13 : Int32), .int (bc f n (i))] m _
          refine y_ieq (t := 46) rfl rfl rfl (fun h36 => ?_) (fun h36 => ?_)
          · have b36 := (bc_eq (k := 13) (by decide) (fun z => (hf i z).1)).mp h36
            refine y_st rfl rfl rfl rfl rfl (fun _ _ => rfl) ?_
            refine y_st rfl rfl rfl rfl rfl (fun _ _ => rfl) ?_
            refine y_st rfl rfl rfl rfl rfl (fun _ _ => rfl) ?_
            refine y_st rfl rfl rfl rfl rfl (fun _ _ => rfl) ?_
            show yP (xg xs) (d + 2) 35 4 [(3, .int ((nI t) + (1 : Int32))), (2, .int ((nI i) + (1 : Int32))), (4, .int (bc f n (i))), (0, .ref 8), (1, .int a)] [] m _
            refine y_headS (l2 := [(3, .int ((nI t) + (1 : Int32))), (2, .int ((nI i) + (1 : Int32))), (0, .ref 8), (1, .int a)]) [0, 1, 3, 4] [3, 2, 0, 1] [3, 2, 4, 0, 1] rfl rfl (by decide) rfl (by decide) ?_
            rw [nI_1, hs]; first | (rw [nI_1, if_pos ⟨by first | exact b22.1 | exact b29.1 | exact b36.1 | exact b43.1, by first | exact Or.inl b22.2 | exact Or.inr (Or.inl b29.2) | exact Or.inr (Or.inr (Or.inl b36.2)) | exact Or.inr (Or.inr (Or.inr b43.2))⟩]; exact ih (t + 1) (i + 1) (by omega) (by first | exact b22.1 | exact b29.1 | exact b36.1 | exact b43.1)) | (rw [if_neg (fun z => by rcases z with ⟨z1, z2 | z2 | z2 | z2⟩; exact b22 ⟨z1, z2⟩; exact b29 ⟨z1, z2⟩; exact b36 ⟨z1, z2⟩; exact b43 ⟨z1, z2⟩), if_pos ⟨b68.1, b56.2, b68.2⟩, hj]; exact ih (t + 1) j (by omega) (by omega))
          · have b36 : ¬ (i < n ∧ f i = 13) := fun z => h36 ((bc_eq (by decide) (fun z => (hf i z).1)).mpr z)
            refine y_st rfl rfl rfl rfl rfl (fun _ _ => rfl) ?_
            refine y_st rfl rfl rfl rfl rfl (fun _ _ => rfl) ?_
            show yP (xg xs) (d + 2) 35 43 [(4, .int (bc f n (i))), (3, .int (nI t)), (2, .int (nI i)), (0, .ref 8), (1, .int a)] [.int (32 : Int32), .int (bc f n (i))] m _
            refine y_ine (t := 52) rfl rfl rfl (fun h43 => ?_) (fun h43 => ?_)
            · have b43 : ¬ (i < n ∧ f i = 32) := fun z => h43 ((bc_eq (by decide) (fun z => (hf i z).1)).mpr z)
              refine y_st rfl rfl rfl rfl rfl (fun _ _ => rfl) ?_
              refine y_st rfl rfl rfl rfl rfl (fun _ _ => rfl) ?_
              show yP (xg xs) (d + 2) 35 56 [(4, .int (bc f n (i))), (3, .int (nI t)), (2, .int (nI i)), (0, .ref 8), (1, .int a)] [.int (40 : Int32), .int (bc f n (i))] m _
              refine y_ine (t := 99) rfl rfl rfl (fun h56 => ?_) (fun h56 => ?_)
              · have b56 : ¬ (i < n ∧ f i = 40) := fun z => h56 ((bc_eq (by decide) (fun z => (hf i z).1)).mpr z)
                refine y_st rfl rfl rfl rfl rfl (fun _ _ => rfl) ?_
                show yP (xg xs) (d + 2) 35 100 [(4, .int (bc f n (i))), (3, .int (nI t)), (2, .int (nI i)), (0, .ref 8), (1, .int a)] [.int (nI i)] m _
                exact y_iret rfl rfl rfl (by refine blQ.f ?_ rfl rfl; rw [hs, if_neg (fun z => by rcases z with ⟨z1, z2 | z2 | z2 | z2⟩; exact b22 ⟨z1, z2⟩; exact b29 ⟨z1, z2⟩; exact b36 ⟨z1, z2⟩; exact b43 ⟨z1, z2⟩)]; first | (rw [if_neg (fun z => b56 ⟨by omega, z.2.1⟩)]) | (rw [if_neg (fun z => b68 ⟨z.1, z.2.2⟩)]))
              · have b56 := (bc_eq (k := 40) (by decide) (fun z => (hf i z).1)).mp h56
                refine y_st rfl rfl rfl rfl rfl (fun _ _ => rfl) ?_
                refine y_st rfl rfl rfl rfl rfl (fun _ _ => rfl) ?_
                refine y_st rfl rfl rfl rfl rfl (fun _ _ => rfl) ?_
                refine y_st rfl rfl rfl rfl rfl (fun _ _ => rfl) ?_
                show yP (xg xs) (d + 2) 35 63 [(4, .int (bc f n (i))), (3, .int (nI t)), (2, .int (nI i)), (0, .ref 8), (1, .int a)] [.int ((nI i) + (1 : Int32)), .ref 8] m _
                rw [nI_1]
                refine y_call rfl rfl rfl rfl rfl (Nat.le_of_ble_eq_true rfl) (Nat.le_of_ble_eq_true rfl) rfl (by decide) (yC.mono (by omega) (fun _ _ z => z) (c36x xs d m h (i + 1) (by omega))) (fun v2 m2 q2 => ?_)
                obtain ⟨rfl, e2⟩ := q2; rw [e2]; clear e2
                refine y_st rfl rfl rfl rfl rfl (fun _ _ => rfl) ?_
                show yP (xg xs) (d + 2) 35 68 [(4, .int (bc f n (i))), (3, .int (nI t)), (2, .int (nI i)), (0, .ref 8), (1, .int a)] [.int (42 : Int32), .int (bc f n (i + 1))] m _
                refine y_ine (t := 99) rfl rfl rfl (fun h68 => ?_) (fun h68 => ?_)
                · have b68 : ¬ (i + 1 < n ∧ f (i + 1) = 42) := fun z => h68 ((bc_eq (by decide) (fun z => (hf (i + 1) z).1)).mpr z)
                  refine y_st rfl rfl rfl rfl rfl (fun _ _ => rfl) ?_
                  show yP (xg xs) (d + 2) 35 100 [(4, .int (bc f n (i))), (3, .int (nI t)), (2, .int (nI i)), (0, .ref 8), (1, .int a)] [.int (nI i)] m _
                  exact y_iret rfl rfl rfl (by refine blQ.f ?_ rfl rfl; rw [hs, if_neg (fun z => by rcases z with ⟨z1, z2 | z2 | z2 | z2⟩; exact b22 ⟨z1, z2⟩; exact b29 ⟨z1, z2⟩; exact b36 ⟨z1, z2⟩; exact b43 ⟨z1, z2⟩)]; first | (rw [if_neg (fun z => b56 ⟨by omega, z.2.1⟩)]) | (rw [if_neg (fun z => b68 ⟨z.1, z.2.2⟩)]))
                · have b68 := (bc_eq (k := 42) (by decide) (fun z => (hf (i + 1) z).1)).mp h68
                  refine y_st rfl rfl rfl rfl rfl (fun _ _ => rfl) ?_
                  refine y_st rfl rfl rfl rfl rfl (fun _ _ => rfl) ?_
                  refine y_st rfl rfl rfl rfl rfl (fun _ _ => rfl) ?_
                  refine y_st rfl rfl rfl rfl rfl (fun _ _ => rfl) ?_
                  show yP (xg xs) (d + 2) 35 75 [(4, .int (bc f n (i))), (3, .int (nI t)), (2, .int (nI i)), (0, .ref 8), (1, .int a)] [.int ((nI i) + (2 : Int32)), .ref 8] m _
                  rw [show nI i + 2 = nI (i + 2) from nI_add i 2]
                  refine y_call rfl rfl rfl rfl rfl (Nat.le_of_ble_eq_true rfl) (Nat.le_of_ble_eq_true rfl) rfl (by decide) (yC.mono (by omega) (fun _ _ z => z) (c37 xs d m h (i + 2) (by omega))) (fun v3 m3 q3 => ?_)
                  obtain ⟨rfl, e3⟩ := q3; rw [e3]; clear e3
                  refine y_st rfl rfl rfl rfl rfl (fun _ _ => rfl) ?_
                  refine y_st rfl rfl rfl rfl rfl (fun _ _ => rfl) ?_
                  refine y_st rfl rfl rfl rfl rfl (fun _ _ => rfl) ?_
                  show yP (xg xs) (d + 2) 35 83 [(5, .int (rmI (rmk f (n - 1 - (i + 2)) (i + 2)))), (4, .int (bc f n (i))), (3, .int (nI t)), (2, .int (nI i)), (0, .ref 8), (1, .int a)] [.int ((-1) : Int32), .int (rmI (rmk f (n - 1 - (i + 2)) (i + 2)))] m _
                  refine y_ine (t := 93) rfl rfl rfl (fun h83 => ?_) (fun h83 => ?_)
                  · obtain ⟨j, hj⟩ : ∃ j, rmk f (n - 1 - (i + 2)) (i + 2) = some j := by cases hz : rmk f (n - 1 - (i + 2)) (i + 2) with | some j => exact ⟨j, rfl⟩ | none => exact absurd (by rw [hz]; rfl) h83
                    have hjl := rmk_le f _ _ _ hj
                    refine y_st rfl rfl rfl rfl rfl (fun _ _ => rfl) ?_
                    refine y_st rfl rfl rfl rfl rfl (fun _ _ => rfl) ?_
                    refine y_st rfl rfl rfl rfl rfl (fun _ _ => rfl) ?_
                    refine y_st rfl rfl rfl rfl rfl (fun _ _ => rfl) ?_
                    refine y_st rfl rfl rfl rfl rfl (fun _ _ => rfl) ?_
                    show yP (xg xs) (d + 2) 35 4 [(3, .int ((nI t) + (1 : Int32))), (2, .int (rmI (rmk f (n - 1 - (i + 2)) (i + 2)))), (5, .int (rmI (rmk f (n - 1 - (i + 2)) (i + 2)))), (4, .int (bc f n (i))), (0, .ref 8), (1, .int a)] [] m _
                    refine y_headS (l2 := [(3, .int ((nI t) + (1 : Int32))), (2, .int (rmI (rmk f (n - 1 - (i + 2)) (i + 2)))), (0, .ref 8), (1, .int a)]) [0, 1, 4, 5] [3, 2, 0, 1] [3, 2, 5, 4, 0, 1] rfl rfl (by decide) rfl (by decide) ?_
                    rw [nI_1, hs]; first | (rw [nI_1, if_pos ⟨by first | exact b22.1 | exact b29.1 | exact b36.1 | exact b43.1, by first | exact Or.inl b22.2 | exact Or.inr (Or.inl b29.2) | exact Or.inr (Or.inr (Or.inl b36.2)) | exact Or.inr (Or.inr (Or.inr b43.2))⟩]; exact ih (t + 1) (i + 1) (by omega) (by first | exact b22.1 | exact b29.1 | exact b36.1 | exact b43.1)) | (rw [if_neg (fun z => by rcases z with ⟨z1, z2 | z2 | z2 | z2⟩; exact b22 ⟨z1, z2⟩; exact b29 ⟨z1, z2⟩; exact b36 ⟨z1, z2⟩; exact b43 ⟨z1, z2⟩), if_pos ⟨b68.1, b56.2, b68.2⟩, hj]; exact ih (t + 1) j (by omega) (by omega))
                  · have hj : rmk f (n - 1 - (i + 2)) (i + 2) = none := by cases hz : rmk f (n - 1 - (i + 2)) (i + 2) with | none => rfl | some j => (rw [hz] at h83; have := rmk_le f _ _ _ hz; exact absurd (show nI j < 0 by rw [show nI j = -1 from h83]; decide) (nI_pos (by omega)))
                    refine y_st rfl rfl rfl rfl rfl (fun _ _ => rfl) ?_
                    refine y_st rfl rfl rfl rfl rfl (fun _ _ => rfl) ?_
                    refine y_st rfl rfl rfl rfl rfl (fun _ _ => rfl) ?_
                    show yP (xg xs) (d + 2) 35 89 [(5, .int (rmI (rmk f (n - 1 - (i + 2)) (i + 2)))), (4, .int (bc f n (i))), (3, .int (nI t)), (2, .int (nI i)), (0, .ref 8), (1, .int a)] [.int (nI i), .int (2 : Int32), .ref 8] m _
                    refine y_call rfl rfl rfl rfl rfl (Nat.le_of_ble_eq_true rfl) (Nat.le_of_ble_eq_true rfl) rfl (by decide) (c38 xs d m (2 : Int32) (nI i) k hk hk2) (fun v4 m4 q4 => ?_)
                    obtain ⟨rfl, e4⟩ := q4; rw [e4]; clear e4
                    show yP (xg xs) (d + 2) 35 92 [(5, .int (rmI (rmk f (n - 1 - (i + 2)) (i + 2)))), (4, .int (bc f n (i))), (3, .int (nI t)), (2, .int (nI i)), (0, .ref 8), (1, .int a)] [.int (m.1 8 5)] (y_si (tkAdd m k 68 (nI i) (2 : Int32)) 8 8 1) _
                    exact y_iret rfl rfl rfl (by refine blQ.t ?_ (congrArg (fun z => some (Value.int z)) h5) rfl; rw [hs, if_neg (fun z => by rcases z with ⟨z1, z2 | z2 | z2 | z2⟩; exact b22 ⟨z1, z2⟩; exact b29 ⟨z1, z2⟩; exact b36 ⟨z1, z2⟩; exact b43 ⟨z1, z2⟩), if_pos ⟨b68.1, b56.2, b68.2⟩, hj])
            · have b43 := (bc_eq (k := 32) (by decide) (fun z => (hf i z).1)).mp h43
              refine y_st rfl rfl rfl rfl rfl (fun _ _ => rfl) ?_
              refine y_st rfl rfl rfl rfl rfl (fun _ _ => rfl) ?_
              refine y_st rfl rfl rfl rfl rfl (fun _ _ => rfl) ?_
              refine y_st rfl rfl rfl rfl rfl (fun _ _ => rfl) ?_
              show yP (xg xs) (d + 2) 35 4 [(3, .int ((nI t) + (1 : Int32))), (2, .int ((nI i) + (1 : Int32))), (4, .int (bc f n (i))), (0, .ref 8), (1, .int a)] [] m _
              refine y_headS (l2 := [(3, .int ((nI t) + (1 : Int32))), (2, .int ((nI i) + (1 : Int32))), (0, .ref 8), (1, .int a)]) [0, 1, 3, 4] [3, 2, 0, 1] [3, 2, 4, 0, 1] rfl rfl (by decide) rfl (by decide) ?_
              rw [nI_1, hs]; first | (rw [nI_1, if_pos ⟨by first | exact b22.1 | exact b29.1 | exact b36.1 | exact b43.1, by first | exact Or.inl b22.2 | exact Or.inr (Or.inl b29.2) | exact Or.inr (Or.inr (Or.inl b36.2)) | exact Or.inr (Or.inr (Or.inr b43.2))⟩]; exact ih (t + 1) (i + 1) (by omega) (by first | exact b22.1 | exact b29.1 | exact b36.1 | exact b43.1)) | (rw [if_neg (fun z => by rcases z with ⟨z1, z2 | z2 | z2 | z2⟩; exact b22 ⟨z1, z2⟩; exact b29 ⟨z1, z2⟩; exact b36 ⟨z1, z2⟩; exact b43 ⟨z1, z2⟩), if_pos ⟨b68.1, b56.2, b68.2⟩, hj]; exact ih (t + 1) j (by omega) (by omega))
set_option maxRecDepth 20000 in
/-- Tokens.behindBlanks -/
theorem c35 (xs : List Int32) (d : Nat) (m : yM) {f : Nat → Nat} {n : Nat} (h : TX m f n) (k : Nat) (hk : m.1 8 6 = nI k) (hk2 : k ≤ 8192) (i : Nat) (hi : i ≤ n) : yC (xg xs) (d + 2) 35 [.ref 8, .int (nI i)] m (fun r m' => blQ m n k (blk f n 8192 i) r m') := by
  refine y_st rfl rfl rfl rfl rfl (fun _ _ => rfl) ?_
  refine y_st rfl rfl rfl rfl rfl (fun _ _ => rfl) ?_
  refine y_st rfl rfl rfl rfl rfl (fun _ _ => rfl) ?_
  refine y_st rfl rfl rfl rfl rfl (fun _ _ => rfl) ?_
  show yP (xg xs) (d + 2) 35 4 [(3, .int (0 : Int32)), (2, .int (nI i)), (0, .ref 8), (1, .int (nI i))] [] m _
  refine y_head (l2 := [(3, .int (0 : Int32)), (2, .int (nI i)), (0, .ref 8), (1, .int (nI i))]) [0, 1, 2, 3] [3, 2, 0, 1] 4 rfl (by decide) rfl rfl (by decide) ?_
  exact c35L xs d m h k hk hk2 (nI i) 8192 0 i (by omega) hi
theorem dg_N {c b : Nat} (hc : c < 256) (hb : b ≤ 16) : dg_ (nI c) (nI b) = if dN c < b then nI (dN c) else -1 := by
  unfold dg_
  rw [dm_N c hc]
  have h15 := dN_le c hc
  by_cases h : dN c = 99
  · rw [if_pos h, if_neg (show ¬ dN c < b by omega)]
    split <;> rfl
  · rw [if_neg h]
    by_cases h2 : dN c < b
    · rw [if_pos h2, if_pos (nI_lt h2 (by omega))]
    · rw [if_neg h2, if_neg (fun z => h2 ((nI_ltI (by omega) (by omega)).mp z))]
abbrev isDg (b : Nat) (c : Nat) : Bool := decide (dN c < b)
theorem cap_l {a b g : Nat} (hb : 1 ≤ b) (hb2 : b ≤ 16) (hg : g ≤ 15) : (if (1099511627776 : Int64) < lN (min a 1099511627776) * (nI b).toInt64 + (nI g).toInt64 then (1099511627776 : Int64) else lN (min a 1099511627776) * (nI b).toInt64 + (nI g).toInt64) = lN (min (a * b + g) 1099511627776) := by
  rw [nI_l (by omega), nI_l (by omega), lN_mul, lN_add, ← cap_step a b g _ hb]
  have h1 : min a 1099511627776 * b ≤ 1099511627776 * 16 := Nat.mul_le_mul (Nat.min_le_right _ _) hb2
  generalize min a 1099511627776 * b = z at *
  show (if lN 1099511627776 < lN (z + g) then lN 1099511627776 else lN (z + g)) = _
  by_cases h : 1099511627776 < z + g
  · rw [if_pos ((pk_lLT (a := 1099511627776) (by decide) (by omega)).mpr h), Nat.min_eq_right (by omega)]
  · rw [if_neg (fun y => h ((pk_lLT (a := 1099511627776) (by decide) (by omega)).mp y)), Nat.min_eq_left (by omega)]
set_option maxRecDepth 20000 in
/-- Tokens.digits, its loop -/
theorem c43L (xs : List Int32) (d : Nat) (m : yM) {f : Nat → Nat} {n : Nat} (h : TX m f n) (b : Nat) (hb : 1 ≤ b) (hb2 : b ≤ 16) (z : Int32) : ∀ (q : Nat) (i a : Nat), i + q = n → yP (xg xs) (d + 2) 43 5 [(5, .int (nI i)), (3, .long (lN (min a 1099511627776))), (0, .ref 8), (1, .int z), (2, .int (nI b))] [] m (fun r m' => r = some (.long (lN (min (dv f b q i a) 1099511627776))) ∧ m' = y_si m 8 7 (nI (rn f (isDg b) q i))) := by
  have ht := h.1
  have h5 := h.2.1
  have h8 := h.2.2.1
  have hf := h.2.2.2
  intro q
  induction q with
  | zero =>
    intro i a hi
    have hi2 : i = n := by omega
    refine y_st rfl rfl rfl rfl rfl (fun _ _ => rfl) ?_
    refine y_st rfl rfl rfl rfl rfl (fun _ _ => rfl) ?_
    refine y_gf rfl rfl rfl rfl rfl ?_
    show yP (xg xs) (d + 2) 43 11 [(5, .int (nI i)), (3, .long (lN (min a 1099511627776))), (0, .ref 8), (1, .int z), (2, .int (nI b))] [.int (m.1 8 5), .int (nI i)] m _
    refine y_ige (t := 57) rfl rfl rfl (fun h11 => ?_) (fun h11 => ?_)
    · refine y_st rfl rfl rfl rfl rfl (fun _ _ => rfl) ?_
      refine y_st rfl rfl rfl rfl rfl (fun _ _ => rfl) ?_
      refine y_pfi rfl rfl rfl rfl rfl (x_fit_i _) ?_
      show yP (xg xs) (d + 2) 43 63 [(5, .int (nI i)), (3, .long (lN (min a 1099511627776))), (0, .ref 8), (1, .int z), (2, .int (nI b))] [] (y_si m 8 7 (nI i)) _
      refine y_st rfl rfl rfl rfl rfl (fun _ _ => rfl) ?_
      show yP (xg xs) (d + 2) 43 64 [(5, .int (nI i)), (3, .long (lN (min a 1099511627776))), (0, .ref 8), (1, .int z), (2, .int (nI b))] [.long (lN (min a 1099511627776))] (y_si m 8 7 (nI i)) _
      exact y_ret rfl rfl rfl rfl (⟨rfl, rfl⟩)
    · exact absurd (by rw [h5, hi2]; exact Int32.le_refl _) h11
  | succ q ih =>
    intro i a hi
    have hi2 : i < n := by omega
    have g1 := hf i hi2
    have hd := dg_N g1.1 hb2
    have hs1 : dv f b (q + 1) i a = if dN (f i) < b then dv f b q (i + 1) (a * b + dN (f i)) else a := rfl
    have hs2 : rn f (isDg b) (q + 1) i = if isDg b (f i) then rn f (isDg b) q (i + 1) else i := rfl
    refine y_st rfl rfl rfl rfl rfl (fun _ _ => rfl) ?_
    refine y_st rfl rfl rfl rfl rfl (fun _ _ => rfl) ?_
    refine y_gf rfl rfl rfl rfl rfl ?_
    show yP (xg xs) (d + 2) 43 11 [(5, .int (nI i)), (3, .long (lN (min a 1099511627776))), (0, .ref 8), (1, .int z), (2, .int (nI b))] [.int (m.1 8 5), .int (nI i)] m _
    refine y_ige (t := 57) rfl rfl rfl (fun h11 => ?_) (fun h11 => ?_)
    · exact absurd h11 (by rw [h5]; exact nI_ge hi2 (by omega))
    · refine y_st rfl rfl rfl rfl rfl (fun _ _ => rfl) ?_
      refine y_st rfl rfl rfl rfl rfl (fun _ _ => rfl) ?_
      show yP (xg xs) (d + 2) 43 17 [(5, .int (nI i)), (3, .long (lN (min a 1099511627776))), (0, .ref 8), (1, .int z), (2, .int (nI b))] [.int (nI i), .ref 8] m _
      refine y_call rfl rfl rfl rfl rfl (Nat.le_of_ble_eq_true rfl) (Nat.le_of_ble_eq_true rfl) rfl (by decide) (yC.mono (by omega) (fun _ _ z => z) (c36x xs d m h (i) (by omega))) (fun v1 m1 q1 => ?_)
      obtain ⟨rfl, e1⟩ := q1; rw [e1]; clear e1
      refine y_st rfl rfl rfl rfl rfl (fun _ _ => rfl) ?_
      show yP (xg xs) (d + 2) 43 21 [(5, .int (nI i)), (3, .long (lN (min a 1099511627776))), (0, .ref 8), (1, .int z), (2, .int (nI b))] [.int (nI b), .int (bc f n (i))] m _
      refine y_call rfl rfl rfl rfl rfl (Nat.le_of_ble_eq_true rfl) (Nat.le_of_ble_eq_true rfl) rfl (by decide) (yC.mono (by omega) (fun _ _ z => z) (c44 xs d m (bc f n (i)) (nI b))) (fun v2 m2 q2 => ?_)
      obtain ⟨rfl, e2⟩ := q2; rw [e2]; clear e2
      refine y_st rfl rfl rfl rfl rfl (fun _ _ => rfl) ?_
      show yP (xg xs) (d + 2) 43 25 [(5, .int (nI i)), (3, .long (lN (min a 1099511627776))), (0, .ref 8), (1, .int z), (2, .int (nI b))] [.int ((-1) : Int32), .int (dg_ (bc f n (i)) (nI b))] m _
      refine y_ieq (t := 57) rfl rfl rfl (fun h25 => ?_) (fun h25 => ?_)
      · rw [bc_c hi2, hd] at h25
        have k1 : ¬ dN (f i) < b := fun y => by (rw [if_pos y] at h25; exact absurd (show nI (dN (f i)) < 0 by rw [h25]; decide) (nI_pos (by omega)))
        refine y_st rfl rfl rfl rfl rfl (fun _ _ => rfl) ?_
        refine y_st rfl rfl rfl rfl rfl (fun _ _ => rfl) ?_
        refine y_pfi rfl rfl rfl rfl rfl (x_fit_i _) ?_
        show yP (xg xs) (d + 2) 43 63 [(5, .int (nI i)), (3, .long (lN (min a 1099511627776))), (0, .ref 8), (1, .int z), (2, .int (nI b))] [] (y_si m 8 7 (nI i)) _
        refine y_st rfl rfl rfl rfl rfl (fun _ _ => rfl) ?_
        show yP (xg xs) (d + 2) 43 64 [(5, .int (nI i)), (3, .long (lN (min a 1099511627776))), (0, .ref 8), (1, .int z), (2, .int (nI b))] [.long (lN (min a 1099511627776))] (y_si m 8 7 (nI i)) _
        exact y_ret rfl rfl rfl rfl (by rw [hs1, hs2, if_neg k1, if_neg (by simpa using k1)]; exact ⟨rfl, rfl⟩)
      · rw [bc_c hi2, hd] at h25
        have k1 : dN (f i) < b := Classical.byContradiction (fun y => h25 (if_neg y))
        have hdd : dg_ (bc f n i) (nI b) = nI (dN (f i)) := by rw [bc_c hi2, hd, if_pos k1]
        refine y_st rfl rfl rfl rfl rfl (fun _ _ => rfl) ?_
        refine y_st rfl rfl rfl rfl rfl (fun _ _ => rfl) ?_
        refine y_st rfl rfl rfl rfl rfl (fun _ _ => rfl) ?_
        refine y_st rfl rfl rfl rfl rfl (fun _ _ => rfl) ?_
        refine y_st rfl rfl rfl rfl rfl (fun _ _ => rfl) ?_
        refine y_st rfl rfl rfl rfl rfl (fun _ _ => rfl) ?_
        show yP (xg xs) (d + 2) 43 35 [(5, .int (nI i)), (3, .long (lN (min a 1099511627776))), (0, .ref 8), (1, .int z), (2, .int (nI b))] [.int (nI i), .ref 8, .long ((lN (min a 1099511627776)) * ((nI b).toInt64))] m _
        refine y_call rfl rfl rfl rfl rfl (Nat.le_of_ble_eq_true rfl) (Nat.le_of_ble_eq_true rfl) rfl (by decide) (yC.mono (by omega) (fun _ _ z => z) (c36x xs d m h (i) (by omega))) (fun v3 m3 q3 => ?_)
        obtain ⟨rfl, e3⟩ := q3; rw [e3]; clear e3
        refine y_st rfl rfl rfl rfl rfl (fun _ _ => rfl) ?_
        show yP (xg xs) (d + 2) 43 39 [(5, .int (nI i)), (3, .long (lN (min a 1099511627776))), (0, .ref 8), (1, .int z), (2, .int (nI b))] [.int (nI b), .int (bc f n (i)), .long ((lN (min a 1099511627776)) * ((nI b).toInt64))] m _
        refine y_call rfl rfl rfl rfl rfl (Nat.le_of_ble_eq_true rfl) (Nat.le_of_ble_eq_true rfl) rfl (by decide) (yC.mono (by omega) (fun _ _ z => z) (c44 xs d m (bc f n (i)) (nI b))) (fun v4 m4 q4 => ?_)
        obtain ⟨rfl, e4⟩ := q4; rw [e4]; clear e4
        refine y_st rfl rfl rfl rfl rfl (fun _ _ => rfl) ?_
        refine y_st rfl rfl rfl rfl rfl (fun _ _ => rfl) ?_
        refine y_st rfl rfl rfl rfl rfl (fun _ _ => rfl) ?_
        refine y_mi rfl rfl rfl rfl rfl (Nat.le_of_ble_eq_true rfl) (by omega) ?_
        show yP (xg xs) (d + 2) 43 50 [(5, .int (nI i)), (3, .long (lN (min a 1099511627776))), (0, .ref 8), (1, .int z), (2, .int (nI b))] [.long (if (1099511627776 : Int64) < (((lN (min a 1099511627776)) * ((nI b).toInt64)) + ((dg_ (bc f n (i)) (nI b)).toInt64)) then (1099511627776 : Int64) else (((lN (min a 1099511627776)) * ((nI b).toInt64)) + ((dg_ (bc f n (i)) (nI b)).toInt64)))] m _
        rw [show (if (1099511627776 : Int64) < (((lN (min a 1099511627776)) * ((nI b).toInt64)) + ((dg_ (bc f n (i)) (nI b)).toInt64)) then (1099511627776 : Int64) else (((lN (min a 1099511627776)) * ((nI b).toInt64)) + ((dg_ (bc f n (i)) (nI b)).toInt64))) = (lN (min (a * b + dN (f i)) 1099511627776)) from by rw [hdd]; exact cap_l hb hb2 (by omega)]
        refine y_st rfl rfl rfl rfl rfl (fun _ _ => rfl) ?_
        refine y_st rfl rfl rfl rfl rfl (fun _ _ => rfl) ?_
        refine y_st rfl rfl rfl rfl rfl (fun _ _ => rfl) ?_
        show yP (xg xs) (d + 2) 43 5 [(5, .int ((nI i) + (1 : Int32))), (3, .long (lN (min (a * b + dN (f i)) 1099511627776))), (0, .ref 8), (1, .int z), (2, .int (nI b))] [] m _
        refine y_head (l2 := [(5, .int ((nI i) + (1 : Int32))), (3, .long (lN (min (a * b + dN (f i)) 1099511627776))), (0, .ref 8), (1, .int z), (2, .int (nI b))]) [0, 1, 2, 3, 4] [5, 3, 0, 1, 2] 5 rfl (by decide) rfl rfl (by decide) ?_
        rw [nI_1, hs1, hs2, if_pos k1, if_pos (by simpa using k1)]; exact ih (i + 1) (a * b + dN (f i)) (by omega)
set_option maxRecDepth 20000 in
/-- Tokens.digits -/
theorem c43 (xs : List Int32) (d : Nat) (m : yM) {f : Nat → Nat} {n : Nat} (h : TX m f n) (b : Nat) (hb : 1 ≤ b) (hb2 : b ≤ 16) (i : Nat) (hi : i ≤ n) : yC (xg xs) (d + 2) 43 [.ref 8, .int (nI i), .int (nI b)] m (fun r m' => r = some (.long (lN (min (dv f b (n - i) i 0) 1099511627776))) ∧ m' = y_si m 8 7 (nI (rn f (isDg b) (n - i) i))) := by
  refine y_st rfl rfl rfl rfl rfl (fun _ _ => rfl) ?_
  refine y_st rfl rfl rfl rfl rfl (fun _ _ => rfl) ?_
  refine y_st rfl rfl rfl rfl rfl (fun _ _ => rfl) ?_
  refine y_st rfl rfl rfl rfl rfl (fun _ _ => rfl) ?_
  show yP (xg xs) (d + 2) 43 5 [(5, .int (nI i)), (3, .long (0 : Int64)), (0, .ref 8), (1, .int (nI i)), (2, .int (nI b))] [] m _
  refine y_head (l2 := [(5, .int (nI i)), (3, .long (0 : Int64)), (0, .ref 8), (1, .int (nI i)), (2, .int (nI b))]) [0, 1, 2, 3, 4] [5, 3, 0, 1, 2] 5 rfl (by decide) rfl rfl (by decide) ?_
  exact c43L xs d m h b hb hb2 (nI i) (n - i) i 0 (by omega)
