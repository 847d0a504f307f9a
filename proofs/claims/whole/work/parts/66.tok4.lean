/-! TOKENS OF THE CLASS: signs, places -/
/-- a sign of two bytes, as the class numbers it, or -1 -/
def two_s (a b : Int32) : Int32 := if b = 61 then (if a = 58 then 70 else if a = 60 then 72 else if a = 62 then 73 else -1) else if a = 46 ∧ b = 46 then 71 else if a = 60 ∧ b = 62 then 74 else -1
theorem c70 (xs : List Int32) (d : Nat) (m : yM) (a b : Int32) : yC (xg xs) (d + 1) 70 [.int a, .int b] m (fun r m' => r = some (.int (two_s a b)) ∧ m' = m) := by
  have k56 : ¬ b = 61 → ¬ (a = 46 ∧ b = 46) → yP (xg xs) (d + 1) 70 56 [(0, .int a), (1, .int b)] [] m (fun r m' => r = some (.int (two_s a b)) ∧ m' = m) := by
    intro h1 h2
    have e : two_s a b = if a = 60 ∧ b = 62 then 74 else -1 := by unfold two_s; rw [if_neg h1, if_neg h2]
    refine w70_56 xs d _ _ _ _ ⟨fun q => ⟨?_, rfl⟩, fun q => ⟨fun q2 => ⟨?_, rfl⟩, fun q2 => ⟨?_, rfl⟩⟩⟩
    · rw [e, if_neg (fun z => q z.1)]
    · rw [e, if_neg (fun z => q2 z.2)]
    · rw [e, if_pos ⟨q, q2⟩]
  refine w70_0 xs d _ _ _ _ ⟨fun h1 => ⟨fun h2 => k56 h1 (fun z => h2 z.1), fun h2 => ⟨fun h3 => k56 h1 (fun z => h3 z.2), fun h3 => ⟨?_, rfl⟩⟩⟩, fun h1 => ⟨fun h2 => ⟨fun h3 => ⟨fun h4 => ⟨?_, rfl⟩, fun h4 => ⟨?_, rfl⟩⟩, fun h3 => ⟨?_, rfl⟩⟩, fun h2 => ⟨?_, rfl⟩⟩⟩
  · unfold two_s; rw [if_neg h1, if_pos ⟨h2, h3⟩]
  · unfold two_s; rw [if_pos h1, if_neg h2, if_neg h3, if_neg h4]
  · unfold two_s; rw [if_pos h1, if_neg h2, if_neg h3, if_pos h4]
  · unfold two_s; rw [if_pos h1, if_neg h2, if_pos h3]
  · unfold two_s; rw [if_pos h1, if_pos h2]
theorem y_si_id (m : yM) (k i : Nat) : y_si m k i (m.1 k i) = m := by
  refine Prod.ext (funext fun a => funext fun b => ?_) rfl
  rw [y_si_at]
  split
  · rename_i h
    rw [h.1, h.2]
  · rfl
/-- a token of another kind than a name: (0, 0, end), (2, number, end), (3, place, end), (4, sign, end), (5, fault, 0) -/
def ckd (t : Nat × Nat × Nat) : Int32 := if t.1 = 2 then 65 else if t.1 = 3 then 66 else if t.1 = 4 then nI t.2.1 else if t.1 = 5 then 68 else 67
def cvl (t : Nat × Nat × Nat) : Int32 := if t.1 = 4 then 0 else nI t.2.1
def tkT (m : yM) (k p n : Nat) (t : Nat × Nat × Nat) (r : Option Value) (m' : yM) : Prop := ∃ z : Int32, if t.1 = 5 then r = some (.int (nI n)) ∧ m' = y_si (tkAdd (y_si m 8 7 z) k (ckd t) (nI p) (cvl t)) 8 8 1 else r = some (.int (nI t.2.2)) ∧ m' = tkAdd (y_si m 8 7 z) k (ckd t) (nI p) (cvl t)
theorem tkT.bad {m : yM} {k p n v : Nat} {t : Nat × Nat × Nat} {r : Option Value} {m' : yM} (z : Int32) (ht : t = (5, v, 0)) (hr : r = some (.int (nI n))) (hm : m' = y_si (tkAdd (y_si m 8 7 z) k 68 (nI p) (nI v)) 8 8 1) : tkT m k p n t r m' := ⟨z, by simp [ht, hr, hm, ckd, cvl]⟩
theorem tkT.ok {m : yM} {k p n K v e : Nat} {t : Nat × Nat × Nat} {r : Option Value} {m' : yM} (z : Int32) (ht : t = (K, v, e)) (hK : K ≠ 5) (hr : r = some (.int (nI e))) (hm : m' = tkAdd (y_si m 8 7 z) k (ckd (K, v, e)) (nI p) (cvl (K, v, e))) : tkT m k p n t r m' := ⟨z, by rw [ht, if_neg hK]; exact ⟨hr, hm⟩⟩
theorem tkT.ofZ {m : yM} {k p n : Nat} {t : Nat × Nat × Nat} {r : Option Value} {m' : yM} (h : tkZ m k p n t 65 r m') (h2 : t.1 = 5 ∨ t.1 = 2) : tkT m k p n t r m' := by
  obtain ⟨z, h⟩ := h
  refine ⟨z, ?_⟩
  unfold tkR at h
  rcases h2 with h2 | h2
  · rw [if_pos h2] at h ⊢
    rw [show ckd t = 68 by simp [ckd, h2], show cvl t = nI t.2.1 by simp [cvl, h2]]
    exact h
  · rw [if_neg (by omega)] at h ⊢
    rw [show ckd t = 65 by simp [ckd, h2], show cvl t = nI t.2.1 by simp [cvl, h2]]
    exact h
theorem finN_K (f : Nat → Nat) (n e V : Nat) : (finN f n e V).1 = 5 ∨ (finN f n e V).1 = 2 := by unfold finN; split <;> simp
theorem numT_K (f : Nat → Nat) (n p E V : Nat) : (numT f n p E V).1 = 5 ∨ (numT f n p E V).1 = 2 := by
  unfold numT
  repeat' split
  all_goals first | exact Or.inl rfl | exact finN_K _ _ _ _
theorem timT_K (f : Nat → Nat) (n p E V : Nat) : (timT f n p E V).1 = 5 ∨ (timT f n p E V).1 = 2 := by
  unfold timT
  repeat' split
  all_goals first | exact Or.inl rfl | exact finN_K _ _ _ _
/-- a sign of two bytes, or 0 -/
def twN (f : Nat → Nat) (n p : Nat) : Nat := if p + 1 < n ∧ f (p + 1) = 61 then (if f p = 58 then 70 else if f p = 60 then 72 else if f p = 62 then 73 else 0) else if f p = 46 ∧ (p + 1 < n ∧ f (p + 1) = 46) then 71 else if f p = 60 ∧ (p + 1 < n ∧ f (p + 1) = 62) then 74 else 0
abbrev isSg (c : Nat) : Prop := c ∈ [40, 41, 91, 93, 44, 59, 58, 46, 43, 45, 42, 47, 61, 60, 62, 38, 124]
def sgT (f : Nat → Nat) (n p : Nat) : Nat × Nat × Nat := if twN f n p = 0 then (if isSg (f p) then (4, 128 + f p, p + 1) else (5, 1, 0)) else (4, twN f n p, p + 2)
theorem two_sN {f : Nat → Nat} {n p : Nat} (h1 : f p < 256) (h2 : p + 1 < n → f (p + 1) < 256) : two_s (nI (f p)) (bc f n (p + 1)) = if twN f n p = 0 then -1 else nI (twN f n p) := by
  have i61 : bc f n (p + 1) = 61 ↔ p + 1 < n ∧ f (p + 1) = 61 := bc_eq (k := 61) (by decide) h2
  have i46 : bc f n (p + 1) = 46 ↔ p + 1 < n ∧ f (p + 1) = 46 := bc_eq (k := 46) (by decide) h2
  have i62 : bc f n (p + 1) = 62 ↔ p + 1 < n ∧ f (p + 1) = 62 := bc_eq (k := 62) (by decide) h2
  have j58 : nI (f p) = 58 ↔ f p = 58 := nI_eq (b := 58) (by omega) (by decide)
  have j60 : nI (f p) = 60 ↔ f p = 60 := nI_eq (b := 60) (by omega) (by decide)
  have j62 : nI (f p) = 62 ↔ f p = 62 := nI_eq (b := 62) (by omega) (by decide)
  have j46 : nI (f p) = 46 ↔ f p = 46 := nI_eq (b := 46) (by omega) (by decide)
  simp only [two_s, twN, i61, i46, i62, j58, j60, j62, j46]
  repeat' split
  all_goals first | rfl | omega
theorem sg_ix : ∀ c, c < 256 → (0 ≤ ixo xsb_2 (((nI c).toUInt32 % 65536).toInt32).toInt8.toInt32 17 0 ↔ isSg c) := by decide +kernel
theorem i2c_lo : ∀ c, c < 256 → ((nI c).toUInt32 % 65536).toInt32 = nI c := by decide +kernel
theorem c69 (xs : List Int32) (d : Nat) (m : yM) {f : Nat → Nat} {n : Nat} (h : TX m f n) (k : Nat) (hk : m.1 8 6 = nI k) (hk2 : k ≤ 8192) (p : Nat) (hp : p < n) : yC (xg xs) (d + 4) 69 [.ref 8, .int (nI p), .int (nI (f p))] m (tkT m k p n (sgT f n p)) := by
  have hf := h.2.2.2
  have h8 := h.2.2.1
  have h5 := h.2.1
  have g := (hf p hp).1
  have e2 := two_sN (f := f) (n := n) (p := p) g (fun z => (hf _ z).1)
  refine w69_0 xs (d + 3) _ _ m _ ?_
  rw [nI_1]
  refine y_ci (c36x xs d m h (p + 1) (by omega)) (by omega) ?_
  refine y_ci (c70 xs d m _ _) (by omega) ?_
  rw [e2]
  have tw : twN f n p ≤ 74 := by unfold twN; (repeat' split) <;> omega
  refine ⟨fun q => ?_, fun q => ?_⟩
  · have q0 : twN f n p = 0 := Classical.byContradiction (fun z => by
      rw [if_neg z] at q
      exact absurd (show nI (twN f n p) < 0 by rw [q]; decide) (nI_pos (by omega)))
    refine y_ci (c52_2 xs d m _ (by rw [i2c_lo _ g]; exact nI_pos (by omega)) (by rw [i2c_lo _ g]; exact nI_nlt (a := 255) (by omega) (by decide))) (by omega) ?_
    rw [sg_ix _ g]
    refine ⟨fun q2 => ?_, fun q2 => ?_⟩
    · refine y_cv (c39 xs d m _ _ _ k hk hk2) (by omega) ?_
      refine tkT.ok (K := 4) (v := 128 + f p) (e := p + 1) (m.1 8 7) (by unfold sgT; rw [if_pos q0, if_pos q2]) (by decide) rfl ?_
      rw [y_si_id]
      show tkAdd m k (nI 128 + nI (f p)) (nI p) 0 = _
      rw [nI_add]
      rfl
    · refine y_ci (c38 xs d m _ _ k hk hk2) (by omega) ?_
      refine tkT.bad (v := 1) (m.1 8 7) (by unfold sgT; rw [if_pos q0, if_neg q2]) (by rw [h5]) ?_
      rw [y_si_id]
      rfl
  · have q0 : ¬ twN f n p = 0 := fun z => q (if_pos z)
    rw [if_neg q0]
    refine y_cv (c39 xs d m _ _ _ k hk hk2) (by omega) ?_
    refine tkT.ok (K := 4) (v := twN f n p) (e := p + 2) (m.1 8 7) (by unfold sgT; rw [if_neg q0]) (by decide) (congrArg (fun z => some (Value.int z)) (nI_add p 2)) ?_
    rw [y_si_id]
    rfl
/-- I, Q, M; 3: none -/
def wyN (c : Nat) : Nat := if c = 73 then 0 else if c = 81 then 1 else if c = 77 then 2 else 3
theorem wy_ix : ∀ c, c < 256 → ixo xsb_1 ((((nI c) &&& 255).toUInt32 % 65536).toInt32).toInt8.toInt32 3 0 = if wyN c = 3 then -1 else nI (wyN c) := by decide +kernel
theorem wy_m1 : ixo xsb_1 ((((-1 : Int32) &&& 255).toUInt32 % 65536).toInt32).toInt8.toInt32 3 0 = -1 := by decide +kernel
theorem i2c_and : ∀ c, c < 256 → ((nI c &&& 255).toUInt32 % 65536).toInt32 = nI c := by decide +kernel
def grN (f : Nat → Nat) (n i : Nat) : Nat := if i < n then gN (f i) else 255
theorem gr_bc {f : Nat → Nat} {n i : Nat} (hf : i < n → f i < 256) : ((gr_ (bc f n i) &&& 255).toUInt32 % 65536).toInt32 = nI (grN f n i) := by
  unfold bc grN
  by_cases h : i < n
  · rw [if_pos h, if_pos h, gr_N _ (hf h), i2c_and _ (gN_lt _ (hf h))]
  · rw [if_neg h, if_neg h, gr_m1]
    decide
theorem wy_ix2 : ∀ c, c < 256 → ixo xsb_1 (nI c).toInt8.toInt32 3 0 = if wyN c = 3 then -1 else nI (wyN c) := by decide +kernel
/-- a place whose first byte is at p: E and V of the digits at p + 3 -/
def plT (f : Nat → Nat) (n p E V : Nat) : Nat × Nat × Nat := if wyN (grN f n (p + 1)) = 3 ∨ ¬ (p + 2 < n ∧ (gN (f (p + 2)) = 88 ∨ gN (f (p + 2)) = 87)) then (5, 5, 0) else if E = p + 3 ∨ (if gN (f (p + 2)) = 88 then 255 else 63) < V ∨ (E < n ∧ isPN (f E)) then (5, 5, 0) else (3, 256 * (if gN (f (p + 2)) = 88 then wyN (grN f n (p + 1)) else wyN (grN f n (p + 1)) + 3) + V, E)
theorem wyN_le (c : Nat) : wyN c ≤ 3 := by unfold wyN; (repeat' split) <;> omega
theorem c51 (xs : List Int32) (d : Nat) (m : yM) {f : Nat → Nat} {n : Nat} (h : TX m f n) (k : Nat) (hk : m.1 8 6 = nI k) (hk2 : k ≤ 8192) (p : Nat) (hp : p < n) : yC (xg xs) (d + 4) 51 [.ref 8, .int (nI p)] m (tkT m k p n (plT f n p (rn f (isDg 10) (n - (p + 3)) (p + 3)) (dv f 10 (n - (p + 3)) (p + 3) 0))) := by
  have hf := h.2.2.2
  have h8 := h.2.2.1
  have h5 := h.2.1
  have g255 : grN f n (p + 1) < 256 := by
    unfold grN
    split
    · rename_i z; exact gN_lt _ (hf _ z).1
    · decide
  have g88 := bc_gr (f := f) (n := n) (i := p + 2) (k := 88) (by decide) (fun z => (hf _ z).1)
  have g87 := bc_gr (f := f) (n := n) (i := p + 2) (k := 87) (by decide) (fun z => (hf _ z).1)
  have tx : ∀ z, TX (y_si m 8 7 z) f n := fun z => h.si (by decide) (Or.inr (by decide))
  have hk1 : ∀ z, (y_si m 8 7 z).1 8 6 = nI k := fun z => by rw [y_si_at, if_neg (by decide)]; exact hk
  have he := rn_le f (isDg 10) (n - (p + 3)) (p + 3)
  have c : p + 2 < n → _ := fun z => c43 xs d m h 10 (by decide) (by decide) (p + 3) (by omega)
  generalize rn f (isDg 10) (n - (p + 3)) (p + 3) = E at *
  generalize dv f 10 (n - (p + 3)) (p + 3) 0 = V at *
  have bad : ∀ (z : Int32), plT f n p E V = (5, 5, 0) → yC (xg xs) (d + 3) 38 [.ref 8, .int (5 : Int32), .int (nI p)] (y_si m 8 7 z) (fun v3 m3 => ∃ u3, v3 = some (Value.int u3) ∧ tkT m k p n (plT f n p E V) (some (.int u3)) m3) := by
    intro z g
    refine y_ci (c38 xs d (y_si m 8 7 z) 5 (nI p) k (hk1 z) hk2) (by omega) ?_
    refine tkT.bad (v := 5) z g ?_ rfl
    rw [y_si_at, if_neg (by decide), h5]
  refine w51_0 xs (d + 3) _ m _ ?_
  rw [nI_1, show nI p + 2 = nI (p + 2) from nI_add p 2]
  refine y_ci (c36x xs d m h (p + 1) (by omega)) (by omega) ?_
  refine y_ci (c41 xs d m _) (by omega) ?_
  rw [gr_bc (fun z => (hf _ z).1)]
  refine y_ci (c52_1 xs d m _ (nI_pos (by omega)) (nI_nlt (a := 255) (by omega) (by decide))) (by omega) ?_
  rw [wy_ix2 _ g255]
  refine y_ci (c36x xs d m h (p + 2) (by omega)) (by omega) ?_
  refine y_ci (c41 xs d m _) (by omega) ?_
  have b48 : (wyN (grN f n (p + 1)) = 3 ∨ ¬ (p + 2 < n ∧ (gN (f (p + 2)) = 88 ∨ gN (f (p + 2)) = 87))) → yP (xg xs) (d + 3 + 1) 51 48 [(0, .ref 8), (1, .int (nI p))] [] m (tkT m k p n (plT f n p E V)) := by
    intro g
    refine w51_48 xs (d + 3) _ _ _ ?_
    have b := bad (m.1 8 7) (by unfold plT; rw [if_pos g])
    rw [y_si_id] at b
    exact b
  have wl := wyN_le (grN f n (p + 1))
  refine ⟨fun q => b48 (Or.inl (Classical.byContradiction (fun z => by
    rw [if_neg z] at q
    exact nI_pos (by omega) q))), fun q => ?_⟩
  have q3 : ¬ wyN (grN f n (p + 1)) = 3 := fun z => q (by rw [if_pos z]; decide)
  rw [if_neg q3]
  have b55 : (p + 2 < n ∧ (gN (f (p + 2)) = 88 ∨ gN (f (p + 2)) = 87)) → yP (xg xs) (d + 3 + 1) 51 55 [(0, .ref 8), (1, .int (nI p)), (2, .int (nI (wyN (grN f n (p + 1))))), (3, .int (gr_ (bc f n (p + 2))))] [] m (tkT m k p n (plT f n p E V)) := by
    intro g
    have t0 : plT f n p E V = if E = p + 3 ∨ (if gN (f (p + 2)) = 88 then 255 else 63) < V ∨ (E < n ∧ isPN (f E)) then (5, 5, 0) else (3, 256 * (if gN (f (p + 2)) = 88 then wyN (grN f n (p + 1)) else wyN (grN f n (p + 1)) + 3) + V, E) := by
      unfold plT
      rw [if_neg (fun z => z.elim q3 (fun y => y g))]
    have b111 : (E = p + 3 ∨ (if gN (f (p + 2)) = 88 then 255 else 63) < V ∨ (E < n ∧ isPN (f E))) → yP (xg xs) (d + 3 + 1) 51 111 [(0, .ref 8), (1, .int (nI p))] [] (y_si m 8 7 (nI E)) (tkT m k p n (plT f n p E V)) := fun y => w51_111 xs (d + 3) _ _ _ (bad _ (by rw [t0, if_pos y]))
    have b92 : ∀ L : Nat, L ≤ 255 → (if gN (f (p + 2)) = 88 then 255 else 63) = L → ¬ E = p + 3 → yP (xg xs) (d + 3 + 1) 51 92 [(0, .ref 8), (1, .int (nI p)), (2, .int (nI (wyN (grN f n (p + 1))))), (3, .int (gr_ (bc f n (p + 2)))), (4, .long (lN (min V 1099511627776)))] [.int (nI L), .long (lN (min V 1099511627776))] (y_si m 8 7 (nI E)) (tkT m k p n (plT f n p E V)) := by
      intro L hL hL2 hE
      refine w51_92 xs (d + 3) _ _ _ _ _ _ _ _ ?_
      rw [nI_l (by omega)]
      have lc : (0 < lg_cmp (lN (min V 1099511627776)) (lN L)) ↔ L < V := by
        rw [lg_cmp_gt, pk_lLT (by omega) (by omega)]
        omega
      rw [lc]
      refine ⟨fun y => b111 (Or.inr (Or.inl (by rw [hL2]; exact y))), fun y => ?_⟩
      rw [y_si_same]
      refine y_ci (c36x xs d _ (tx _) E (by omega)) (by omega) ?_
      refine y_ci (c47 xs d _ _) (by omega) ?_
      have nb := bc_nB (f := f) (n := n) (e := E) (fun z => (hf _ z).1)
      refine ⟨fun y2 => ?_, fun y2 => b111 (Or.inr (Or.inr (nb.mp (y_ift y2))))⟩
      have y3 : ¬ (E < n ∧ isPN (f E)) := fun z => y_iff y2 (nb.mpr z)
      have t1 : plT f n p E V = (3, 256 * (if gN (f (p + 2)) = 88 then wyN (grN f n (p + 1)) else wyN (grN f n (p + 1)) + 3) + V, E) := by
        rw [t0, if_neg (fun z => z.elim hE (fun z => z.elim (fun z => y (by rw [← hL2]; exact z)) y3))]
      have fin : ∀ a : Nat, (if gN (f (p + 2)) = 88 then wyN (grN f n (p + 1)) else wyN (grN f n (p + 1)) + 3) = a → yP (xg xs) (d + 3 + 1) 51 138 [(0, .ref 8), (4, .long (lN (min V 1099511627776)))] [.int (nI a), .int (256 : Int32), .int (nI p), .int (66 : Int32), .ref 8] (y_si m 8 7 (nI E)) (tkT m k p n (plT f n p E V)) := by
        intro a ha
        refine w51_138 xs (d + 3) _ _ _ _ _ _ _ ?_
        refine y_cv (c39 xs d _ _ _ _ k (hk1 _) hk2) (by omega) ?_
        rw [ha] at t1
        refine tkT.ok (nI E) t1 (by decide) ?_ ?_
        · simp [tkAdd, y_si_at]
        · show tkAdd _ k 66 (nI p) (nI 256 * nI a + (lN (min V 1099511627776)).toInt32) = _
          rw [lN_i, Nat.min_eq_left (by omega), pk_mul, nI_add]
          rfl
      refine ⟨fun y4 => ?_, fun y4 => ?_⟩
      · rw [show nI (wyN (grN f n (p + 1))) + 3 = nI (wyN (grN f n (p + 1)) + 3) from nI_add _ 3]
        exact fin _ (if_neg (fun z => y4 (g88.mpr ⟨g.1, z⟩)))
      · exact fin _ (if_pos (g88.mp y4).2)
    refine w51_55 xs (d + 3) _ _ _ _ _ ?_
    rw [show nI p + 3 = nI (p + 3) from nI_add p 3]
    refine y_cl (c g.1) (by omega) ?_
    rw [y_si_same]
    refine ⟨fun y => b111 (Or.inl ((nI_eq (by omega) (by omega)).mp y)), fun y => ⟨fun y2 => b92 63 (by decide) (if_neg (fun z => y2 (g88.mpr ⟨g.1, z⟩))) (fun z => y (by rw [z])), fun y2 => b92 255 (by decide) (if_pos (g88.mp y2).2) (fun z => y (by rw [z]))⟩⟩
  refine ⟨fun q4 => b55 ⟨(g88.mp q4).1, Or.inl (g88.mp q4).2⟩, fun q4 => ⟨fun q5 => b55 ⟨(g87.mp q5).1, Or.inr (g87.mp q5).2⟩, fun q5 => b48 (Or.inr (fun z => z.2.elim (fun y => q4 (g88.mpr ⟨z.1, y⟩)) (fun y => q5 (g87.mpr ⟨z.1, y⟩))))⟩⟩
