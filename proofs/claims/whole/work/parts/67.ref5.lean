/-! TOKENS OF THE REFERENCE: words -/
def flw (ws : List (List Int32)) : List Int32 := (ws.map (fun w => w ++ [32])).flatten
theorem WL3 : xsb_3 = 32 :: flw (KN.take 41) := by decide +kernel
theorem WL3d : xsb_3.drop 1 = flw (KN.take 41) := by
  have e := congrArg (List.drop 1) WL3
  rw [List.drop_succ_cons, List.drop_zero] at e
  exact e
theorem KN_no32 : ∀ w ∈ KN, (32 : Int32) ∉ w := by decide +kernel
theorem dr_get {l r : List Int32} {k j : Nat} (h : l.drop k = r) : l.getD (k + j) 0 = r.getD j 0 := by
  rw [← h]
  simp [List.getD_eq_getElem?_getD, List.getElem?_drop]
theorem dr_len {l r : List Int32} {k : Nat} (h : l.drop k = r) : r.length = l.length - k := by rw [← h, List.length_drop]
theorem wd_in {v r : List Int32} {j : Nat} (h : j < v.length) : (v ++ 32 :: r).getD j 0 = v.getD j 0 := by simp [List.getD_eq_getElem?_getD, List.getElem?_append_left h]
theorem wd_sp {v r : List Int32} : (v ++ 32 :: r).getD v.length 0 = 32 := by simp [List.getD_eq_getElem?_getD]
theorem no32 {v : List Int32} (h : (32 : Int32) ∉ v) {j : Nat} (hj : j < v.length) : ¬ v.getD j 0 = 32 := fun z => h (by
  rw [← z]
  simp [List.getD_eq_getElem?_getD, hj])
theorem li_ext {v w : List Int32} (h : v.length = w.length) (h2 : ∀ e, e < v.length → v.getD e 0 = w.getD e 0) : v = w := by
  refine List.ext_getElem h (fun e h3 h4 => ?_)
  have := h2 e h3
  simpa [List.getD_eq_getElem?_getD, h3, h4] using this
theorem nmT_get {f : Nat → Nat} {p s e : Nat} (h : e < s) : (nmT f p s).getD e 0 = nI (gN (f (p + e))) := by simp [nmT, h, List.getD_eq_getElem?_getD]
theorem c286S (xs : List Int32) (d : Nat) (m : yM) (Q : Option Value → yM → Prop) (l1 : Int32) (t k : Nat) (v r : List Int32) (hd : xsb_3.drop k = v ++ 32 :: r) (hv : (32 : Int32) ∉ v) (K : yP (xg xs) (d + 4) 286 4 [(0, .ref 58), (1, .int l1), (2, .int (nI (t + 1))), (3, .int (nI (k + v.length + 1)))] [] m Q) : ∀ q j : Nat, j + q = v.length → yP (xg xs) (d + 4) 286 90 [(0, .ref 58), (1, .int l1), (2, .int (nI t)), (3, .int (nI (k + j)))] [] m Q := by
  have hl := dr_len hd
  simp only [List.length_append, List.length_cons] at hl
  have x3 := xl_3
  intro q
  induction q with
  | zero =>
    intro j hj
    refine w286_90 xs (d + 3) _ _ _ m _ ?_
    refine y_ci (c24_3 xs d m (k + j) (by omega)) (by omega) ?_
    rw [dr_get hd, show j = v.length by omega, wd_sp, nI_1, nI_1]
    exact ⟨fun _ => K, fun z => absurd rfl z⟩
  | succ q ih =>
    intro j hj
    refine w286_90 xs (d + 3) _ _ _ m _ ?_
    refine y_ci (c24_3 xs d m (k + j) (by omega)) (by omega) ?_
    rw [dr_get hd, wd_in (by omega), nI_1, nI_1]
    exact ⟨fun z => absurd z (no32 hv (by omega)), fun _ => ih (j + 1) (by omega)⟩
theorem c286C (xs : List Int32) (d : Nat) (m : yM) {f : Nat → Nat} {n : Nat} (h : TY m f n) (p s : Nat) (h5 : m.1 58 5 = nI p) (hs : p + s ≤ n) (Q : Option Value → yM → Prop) (t k : Nat) (v r : List Int32) (hd : xsb_3.drop k = v ++ 32 :: r) (hv : (32 : Int32) ∉ v) (K : ¬ v = nmT f p s → yP (xg xs) (d + 4) 286 90 [(0, .ref 58), (1, .int (nI s)), (2, .int (nI t)), (3, .int (nI k))] [] m Q) (K2 : v = nmT f p s → Q (some (.int (nI t))) m) : ∀ q j : Nat, j + q = s → j ≤ v.length → (∀ e, e < j → v.getD e 0 = (nmT f p s).getD e 0) → yP (xg xs) (d + 4) 286 16 [(0, .ref 58), (1, .int (nI s)), (2, .int (nI t)), (3, .int (nI k)), (4, .int (nI j))] [] m Q := by
  have h8 := h.2.1
  have hf := h.2.2
  have hl := dr_len hd
  simp only [List.length_append, List.length_cons] at hl
  have x3 := xl_3
  intro q
  induction q with
  | zero =>
    intro j hj hjv hm
    have e : j = s := by omega
    subst e
    refine w286_16 xs (d + 3) _ _ _ _ m _ ⟨fun _ => ?_, fun z => absurd (Int32.le_refl _) z⟩
    refine w286_68 xs (d + 3) _ _ _ _ m _ ⟨fun z => absurd rfl z, fun _ => ?_⟩
    rw [nI_add]
    refine y_ci (c24_3 xs d m (k + j) (by omega)) (by omega) ?_
    rw [dr_get hd]
    by_cases hh : j < v.length
    · rw [wd_in hh]
      exact ⟨fun _ => K (fun z => by have := congrArg List.length z; rw [nmT_len] at this; omega), fun z => absurd z (no32 hv hh)⟩
    · have e : v.length = j := by omega
      have e2 : (v ++ 32 :: r).getD j 0 = 32 := by rw [← e]; exact wd_sp
      rw [e2]
      exact ⟨fun z => absurd rfl z, fun _ => K2 (li_ext (by rw [nmT_len]; exact e) (fun x hx => hm x (by omega)))⟩
  | succ q ih =>
    intro j hj hjv hm
    have hjs : j < s := by omega
    have ew : (nmT f p s).getD j 0 = nI (gN (f (p + j))) := nmT_get hjs
    have er : gr_ (rc f n (p + j)) = nI (gN (f (p + j))) := by rw [show rc f n (p + j) = nI (f (p + j)) from if_pos (by omega), gr_N _ (hf _ (by omega)).1]
    have out : ¬ v = nmT f p s → yP (xg xs) (d + 3 + 1) 286 68 [(0, .ref 58), (1, .int (nI s)), (2, .int (nI t)), (3, .int (nI k)), (4, .int (nI j))] [] m Q := fun z => w286_68 xs (d + 3) _ _ _ _ m _ ⟨fun _ => K z, fun y => absurd ((nI_eq (by omega) (by omega)).mp y) (by omega)⟩
    refine w286_16 xs (d + 3) _ _ _ _ m _ ⟨fun z => absurd z (nI_ge hjs (by omega)), fun _ => ?_⟩
    rw [nI_add]
    refine y_ci (c24_3 xs d m (k + j) (by omega)) (by omega) ?_
    rw [h5, nI_add]
    refine y_ci (c274x xs d m h (p + j) (by omega)) (by omega) ?_
    refine y_ci (c279 xs d m _) (by omega) ?_
    rw [er, dr_get hd]
    refine ⟨fun z => out (fun y => ?_), fun z => ?_⟩
    · by_cases hh : j < v.length
      · rw [wd_in hh, y, ew] at z
        exact z rfl
      · have := congrArg List.length y
        rw [nmT_len] at this
        omega
    · refine y_ci (c24_3 xs d m (k + j) (by omega)) (by omega) ?_
      rw [dr_get hd]
      by_cases hh : j < v.length
      · rw [wd_in hh] at z ⊢
        refine ⟨fun y => absurd y (no32 hv hh), fun _ => ?_⟩
        rw [nI_1]
        refine ih (j + 1) (by omega) (by omega) (fun e he => ?_)
        rcases Nat.lt_or_ge e j with x | x
        · exact hm e x
        · rw [show e = j by omega, ew]
          exact z
      · have e : v.length = j := by omega
        have e2 : (v ++ 32 :: r).getD j 0 = 32 := by rw [← e]; exact wd_sp
        rw [e2]
        refine ⟨fun _ => out (fun y => ?_), fun y => absurd rfl y⟩
        have := congrArg List.length y
        rw [nmT_len] at this
        omega
theorem c286L (xs : List Int32) (d : Nat) (m : yM) {f : Nat → Nat} {n : Nat} (h : TY m f n) (p s : Nat) (h5 : m.1 58 5 = nI p) (hs : p + s ≤ n) (Q : Option Value → yM → Prop) : ∀ (ws : List (List Int32)) (t k : Nat), xsb_3.drop k = flw ws → (∀ v ∈ ws, (32 : Int32) ∉ v) → t + ws.length ≤ 41 → (∀ i, i < ws.length → ws.getD i [] = nmT f p s → Q (some (.int (nI (t + i)))) m) → (nmT f p s ∉ ws → Q (some (.int (-1))) m) → k ≤ xsb_3.length → yP (xg xs) (d + 4) 286 4 [(0, .ref 58), (1, .int (nI s)), (2, .int (nI t)), (3, .int (nI k))] [] m Q := by
  have x3 := xl_3
  intro ws
  induction ws with
  | nil =>
    intro t k hd _ _ _ hno hk
    have hl := dr_len hd
    have e : (flw ([] : List (List Int32))).length = 0 := rfl
    refine w286_4 xs (d + 3) _ _ _ m _ ?_
    refine y_ci (c22_3 xs d m) (by omega) ?_
    exact ⟨fun _ => hno (by simp), fun z => absurd (nI_le (a := xsb_3.length) (b := k) (by omega) (by omega)) (by rw [x3]; exact z)⟩
  | cons v ws ih =>
    intro t k hd hn ht hy hno hk
    have hd2 : xsb_3.drop k = v ++ 32 :: flw ws := by rw [hd]; simp [flw]
    have hl := dr_len hd2
    simp only [List.length_append, List.length_cons] at hl
    refine w286_4 xs (d + 3) _ _ _ m _ ?_
    refine y_ci (c22_3 xs d m) (by omega) ?_
    refine ⟨fun z => absurd z (by have y := nI_ge (a := k) (b := xsb_3.length) (by omega) (by omega); rw [x3] at y; exact y), fun _ => ?_⟩
    refine c286C xs d m h p s h5 hs Q t k v (flw ws) hd2 (hn v (by simp)) (fun z => ?_) (fun z => hy 0 (by simp) (by simpa using z)) s 0 (by omega) (Nat.zero_le _) (fun e he => absurd he (Nat.not_lt_zero _))
    refine c286S xs d m Q (nI s) t k v (flw ws) hd2 (hn v (by simp)) ?_ v.length 0 (by omega)
    refine ih (t + 1) (k + v.length + 1) ?_ (fun x hx => hn x (by simp [hx])) (by simp at ht; omega) (fun i hi he => ?_) (fun hm => hno ?_) (by omega)
    · have e := congrArg (List.drop (v.length + 1)) hd2
      rw [List.drop_drop] at e
      rw [show k + v.length + 1 = k + (v.length + 1) by omega, e]
      simp
    · have := hy (i + 1) (by simp; omega) (by simpa using he)
      rw [show t + (i + 1) = t + 1 + i by omega] at this
      exact this
    · simp only [List.mem_cons, not_or]
      exact ⟨fun y => z y.symm, hm⟩
def wdQ (m : yM) (w : List Int32) (r : Option Value) (m' : yM) : Prop := m' = m ∧ ((∃ t, t < 41 ∧ KN.getD t [] = w ∧ r = some (.int (nI t))) ∨ (w ∉ KN.take 41 ∧ r = some (.int (-1))))
theorem KN_41 : (KN.take 41).length = 41 := by decide +kernel
theorem c286 (xs : List Int32) (d : Nat) (m : yM) {f : Nat → Nat} {n : Nat} (h : TY m f n) (p s : Nat) (h5 : m.1 58 5 = nI p) (hs : p + s ≤ n) : yC (xg xs) (d + 4) 286 [.ref 58, .int (nI s)] m (wdQ m (nmT f p s)) := by
  refine w286_0 xs (d + 3) _ m _ ?_
  refine c286L xs d m h p s h5 hs _ (KN.take 41) 0 1 WL3d (fun v hv => KN_no32 v (List.mem_of_mem_take hv)) (by rw [KN_41]; decide) (fun i hi he => ⟨rfl, Or.inl ⟨i, by rw [KN_41] at hi; exact hi, ?_, by rw [Nat.zero_add]⟩⟩) (fun hm => ⟨rfl, Or.inr ⟨hm, rfl⟩⟩) (by rw [xl_3]; decide)
  rw [← he]
  rw [KN_41] at hi
  simp [List.getD_eq_getElem?_getD, List.getElem?_take, hi]
