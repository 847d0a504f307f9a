/-! AMONG: which of the words; laid by wip/gen/amg2.py -/
def ixw (w : List Int32) : List (List Int32) → Nat → Int32
  | [] => fun _ => -1
  | v :: ws => fun t => if v = w then nI t else ixw w ws (t + 1)
theorem offs_up (Rs : List (List Int32)) : ∀ i k, i + k = Rs.length → offs Rs i ≤ offs Rs Rs.length
  | i, 0, h => by rw [← h]; exact Nat.le_refl _
  | i, k + 1, h => by
    have := offs_up Rs (i + 1) k (by omega)
    rw [offs_s Rs (show i < Rs.length by omega)] at this
    omega
theorem offs_end {Rs : List (List Int32)} {a : Nat} (ha : a < Rs.length) (ho : offs Rs Rs.length ≤ 8192) : offs Rs a + (Rs.getD a []).length ≤ 8192 := by
  have := offs_up Rs (a + 1) (Rs.length - (a + 1)) (by omega)
  rw [offs_s Rs ha] at this
  omega
def ws5 : List (List Int32) := (KN.drop 41).take 9
theorem WS5 : xsb_5 = 32 :: flw ws5 := by decide +kernel
theorem c325S_5 (xs : List Int32) (d : Nat) (m : yM) (Q : Option Value → yM → Prop) (l2 l3 : Int32) (t k : Nat) (v r : List Int32) (hd : xsb_5.drop k = v ++ 32 :: r) (hv : (32 : Int32) ∉ v) (K : yP (xg xs) (d + 4) 325 22 [(0, .ref 58), (1, .retAddr 25), (2, .int l2), (3, .int l3), (4, .int (nI (t + 1))), (5, .int (nI (k + v.length + 1)))] [] m Q) : ∀ q j : Nat, j + q = v.length → yP (xg xs) (d + 4) 325 95 [(0, .ref 58), (1, .retAddr 25), (2, .int l2), (3, .int l3), (4, .int (nI t)), (5, .int (nI (k + j)))] [] m Q := by
  have hl := dr_len hd
  simp only [List.length_append, List.length_cons] at hl
  have x3 := xl_5
  intro q
  induction q with
  | zero =>
    intro j hj
    refine w325s5_95 xs (d + 3) _ _ _ _ m _ ?_
    refine y_ci (c24_5 xs d m (k + j) (by omega)) (by omega) ?_
    rw [dr_get hd, show j = v.length by omega, wd_sp, nI_1, nI_1]
    exact ⟨fun _ => K, fun z => absurd rfl z⟩
  | succ q ih =>
    intro j hj
    refine w325s5_95 xs (d + 3) _ _ _ _ m _ ?_
    refine y_ci (c24_5 xs d m (k + j) (by omega)) (by omega) ?_
    rw [dr_get hd, wd_in (by omega), nI_1, nI_1]
    exact ⟨fun z => absurd z (no32 hv (by omega)), fun _ => ih (j + 1) (by omega)⟩
theorem c325C_5 (xs : List Int32) (d : Nat) {m : yM} {Rs : List (List Int32)} (hR : NR m Rs) (ho : offs Rs Rs.length ≤ 8192) (hl8 : Rs.length ≤ 8192) {a : Nat} (ha : a < Rs.length) (h32 : (32 : Int32) ∉ Rs.getD a []) (Q : Option Value → yM → Prop) (t k : Nat) (v r : List Int32) (hd : xsb_5.drop k = v ++ 32 :: r) (hv : (32 : Int32) ∉ v) (K : ¬ v = Rs.getD a [] → yP (xg xs) (d + 4) 325 95 [(0, .ref 58), (1, .retAddr 25), (2, .int (nI a)), (3, .int (nI (Rs.getD a []).length)), (4, .int (nI t)), (5, .int (nI k))] [] m Q) (K2 : v = Rs.getD a [] → Q (some (.int (nI t))) m) : ∀ q j : Nat, j + q = (Rs.getD a []).length → j ≤ v.length → (∀ e, e < j → v.getD e 0 = (Rs.getD a []).getD e 0) → yP (xg xs) (d + 4) 325 34 [(0, .ref 58), (1, .retAddr 25), (2, .int (nI a)), (3, .int (nI (Rs.getD a []).length)), (4, .int (nI t)), (5, .int (nI k)), (6, .int (nI j))] [] m Q := by
  have hl := dr_len hd
  simp only [List.length_append, List.length_cons] at hl
  have x3 := xl_5
  have of := offs_end ha ho
  have lt : ∀ e, e < (Rs.getD a []).length → m.1 60 (offs Rs a + e) = (Rs.getD a []).getD e 0 := fun e he => by
    have := hR.2.2.1 a ha
    rw [← nrAt_get (m := m) (a := offs Rs a) he, this]
  generalize hw : Rs.getD a [] = w at *
  intro q
  induction q with
  | zero =>
    intro j hj hjv hm
    have e : j = w.length := by omega
    subst e
    refine w325s5_34 xs (d + 3) _ _ _ _ _ m _ ⟨fun _ => ?_, fun z => absurd (Int32.le_refl _) z⟩
    refine w325s5_72 xs (d + 3) _ _ _ _ _ m _ ⟨fun z => absurd rfl z, fun _ => ?_⟩
    rw [nI_add]
    refine y_ci (c24_5 xs d m (k + w.length) (by omega)) (by omega) ?_
    rw [dr_get hd]
    by_cases hh : w.length < v.length
    · rw [wd_in hh]
      exact ⟨fun _ => K (fun z => by rw [z] at hh; omega), fun z => absurd z (no32 hv hh)⟩
    · have e : v.length = w.length := by omega
      have e2 : (v ++ 32 :: r).getD w.length 0 = 32 := by rw [← e]; exact wd_sp
      rw [e2]
      exact ⟨fun z => absurd rfl z, fun _ => K2 (li_ext e (fun x hx => hm x (by omega)))⟩
  | succ q ih =>
    intro j hj hjv hm
    have hjs : j < w.length := by omega
    have out : ¬ v = w → yP (xg xs) (d + 3 + 1) 325 72 [(0, .ref 58), (1, .retAddr 25), (2, .int (nI a)), (3, .int (nI w.length)), (4, .int (nI t)), (5, .int (nI k)), (6, .int (nI j))] [] m Q := fun z => w325s5_72 xs (d + 3) _ _ _ _ _ m _ ⟨fun _ => K z, fun y => absurd ((nI_eq (by omega) (by omega)).mp y) (by omega)⟩
    refine w325s5_34 xs (d + 3) _ _ _ _ _ m _ ⟨fun z => absurd z (nI_ge hjs (by omega)), fun _ => ?_⟩
    rw [nI_add]
    refine y_ci (c24_5 xs d m (k + j) (by omega)) (by omega) ⟨x_in_nI (by omega) (by decide), ?_⟩
    rw [nI_clamp (by omega), hR.2.1 a (by omega), nI_add, nI_clamp (by omega), lt j hjs, dr_get hd]
    refine ⟨x_in_nI (by omega) (by decide), fun z => out (fun y => ?_), fun z => ?_⟩
    · by_cases hh : j < v.length
      · rw [wd_in hh, y] at z
        exact z rfl
      · rw [y] at hh; omega
    · by_cases hh : j < v.length
      · rw [wd_in hh] at z
        rw [nI_1]
        refine ih (j + 1) (by omega) (by omega) (fun e he => ?_)
        rcases Nat.lt_or_ge e j with x | x
        · exact hm e x
        · rw [show e = j by omega]
          exact z
      · have e : v.length = j := by omega
        have e2 : (v ++ 32 :: r).getD j 0 = 32 := by rw [← e]; exact wd_sp
        rw [e2] at z
        exact absurd z.symm (no32 h32 hjs)
theorem c325_5 (xs : List Int32) (d : Nat) {m : yM} {Rs : List (List Int32)} (hR : NR m Rs) (ho : offs Rs Rs.length ≤ 8192) (hl8 : Rs.length ≤ 8192) {a : Nat} (ha : a < Rs.length) (h32 : (32 : Int32) ∉ Rs.getD a []) : yC (xg xs) (d + 4) 325 [.ref 58, .retAddr 25, .int (nI a)] m (fun r m' => r = some (.int (ixw (Rs.getD a []) ws5 0)) ∧ m' = m) := by
  have x3 := xl_5
  have of := offs_end ha ho
  have e1 : nI (offs Rs (a + 1)) - nI (offs Rs a) = nI (Rs.getD a []).length := by
    rw [offs_s Rs ha, nI_sub (by omega), Nat.add_sub_cancel_left]
  have lp : ∀ (ws : List (List Int32)) (t k : Nat), xsb_5.drop k = flw ws → (∀ v ∈ ws, (32 : Int32) ∉ v) → t + ws.length ≤ 100 → k ≤ xsb_5.length → yP (xg xs) (d + 4) 325 22 [(0, .ref 58), (1, .retAddr 25), (2, .int (nI a)), (3, .int (nI (Rs.getD a []).length)), (4, .int (nI t)), (5, .int (nI k))] [] m (fun r m' => r = some (.int (ixw (Rs.getD a []) ws t)) ∧ m' = m) := by
    intro ws
    induction ws with
    | nil =>
      intro t k hd _ _ hk
      have hl := dr_len hd
      have e : (flw ([] : List (List Int32))).length = 0 := rfl
      refine w325s5_22 xs (d + 3) _ _ _ _ m _ ?_
      refine y_ci (c22_5 xs d m) (by omega) ?_
      exact ⟨fun _ => ⟨rfl, rfl⟩, fun z => absurd (nI_le (a := xsb_5.length) (b := k) (by omega) (by omega)) (by rw [x3]; exact z)⟩
    | cons v ws ih =>
      intro t k hd hn ht hk
      have hd2 : xsb_5.drop k = v ++ 32 :: flw ws := by rw [hd]; simp [flw]
      have hl := dr_len hd2
      simp only [List.length_append, List.length_cons] at hl
      have es : ixw (Rs.getD a []) (v :: ws) t = if v = Rs.getD a [] then nI t else ixw (Rs.getD a []) ws (t + 1) := rfl
      refine w325s5_22 xs (d + 3) _ _ _ _ m _ ?_
      refine y_ci (c22_5 xs d m) (by omega) ?_
      refine ⟨fun z => absurd z (by have y := nI_ge (a := k) (b := xsb_5.length) (by omega) (by omega); rw [x3] at y; exact y), fun _ => ?_⟩
      refine c325C_5 xs d hR ho hl8 ha h32 _ t k v (flw ws) hd2 (hn v (by simp)) (fun z => ?_) (fun z => ⟨by rw [es, if_pos z], rfl⟩) _ 0 (Nat.zero_add _) (Nat.zero_le _) (fun e he => absurd he (Nat.not_lt_zero _))
      refine c325S_5 xs d m _ (nI a) _ t k v (flw ws) hd2 (hn v (by simp)) ?_ v.length 0 (by omega)
      rw [es, if_neg z]
      refine ih (t + 1) (k + v.length + 1) ?_ (fun x hx => hn x (by simp [hx])) (by simp at ht; omega) (by omega)
      have e := congrArg (List.drop (v.length + 1)) hd2
      rw [List.drop_drop] at e
      rw [show k + v.length + 1 = k + (v.length + 1) by omega, e]
      simp
  refine w325s5_0 xs (d + 3) _ m _ ?_
  rw [nI_1, nI_clamp (by omega), nI_clamp (by omega), hR.2.1 a (by omega), hR.2.1 (a + 1) (by omega), e1]
  refine ⟨x_in_nI (by omega) (by decide), x_in_nI (by omega) (by decide), ?_⟩
  refine lp ws5 0 1 ?_ (by decide +kernel) (by decide +kernel) (by rw [x3]; decide)
  have e := congrArg (List.drop 1) WS5
  rw [List.drop_succ_cons, List.drop_zero] at e
  exact e

def ws6 : List (List Int32) := (KN.drop 50).take 10
theorem WS6 : xsb_6 = 32 :: flw ws6 := by decide +kernel
theorem c325S_6 (xs : List Int32) (d : Nat) (m : yM) (Q : Option Value → yM → Prop) (l2 l3 : Int32) (t k : Nat) (v r : List Int32) (hd : xsb_6.drop k = v ++ 32 :: r) (hv : (32 : Int32) ∉ v) (K : yP (xg xs) (d + 4) 325 22 [(0, .ref 58), (1, .retAddr 26), (2, .int l2), (3, .int l3), (4, .int (nI (t + 1))), (5, .int (nI (k + v.length + 1)))] [] m Q) : ∀ q j : Nat, j + q = v.length → yP (xg xs) (d + 4) 325 95 [(0, .ref 58), (1, .retAddr 26), (2, .int l2), (3, .int l3), (4, .int (nI t)), (5, .int (nI (k + j)))] [] m Q := by
  have hl := dr_len hd
  simp only [List.length_append, List.length_cons] at hl
  have x3 := xl_6
  intro q
  induction q with
  | zero =>
    intro j hj
    refine w325s6_95 xs (d + 3) _ _ _ _ m _ ?_
    refine y_ci (c24_6 xs d m (k + j) (by omega)) (by omega) ?_
    rw [dr_get hd, show j = v.length by omega, wd_sp, nI_1, nI_1]
    exact ⟨fun _ => K, fun z => absurd rfl z⟩
  | succ q ih =>
    intro j hj
    refine w325s6_95 xs (d + 3) _ _ _ _ m _ ?_
    refine y_ci (c24_6 xs d m (k + j) (by omega)) (by omega) ?_
    rw [dr_get hd, wd_in (by omega), nI_1, nI_1]
    exact ⟨fun z => absurd z (no32 hv (by omega)), fun _ => ih (j + 1) (by omega)⟩
theorem c325C_6 (xs : List Int32) (d : Nat) {m : yM} {Rs : List (List Int32)} (hR : NR m Rs) (ho : offs Rs Rs.length ≤ 8192) (hl8 : Rs.length ≤ 8192) {a : Nat} (ha : a < Rs.length) (h32 : (32 : Int32) ∉ Rs.getD a []) (Q : Option Value → yM → Prop) (t k : Nat) (v r : List Int32) (hd : xsb_6.drop k = v ++ 32 :: r) (hv : (32 : Int32) ∉ v) (K : ¬ v = Rs.getD a [] → yP (xg xs) (d + 4) 325 95 [(0, .ref 58), (1, .retAddr 26), (2, .int (nI a)), (3, .int (nI (Rs.getD a []).length)), (4, .int (nI t)), (5, .int (nI k))] [] m Q) (K2 : v = Rs.getD a [] → Q (some (.int (nI t))) m) : ∀ q j : Nat, j + q = (Rs.getD a []).length → j ≤ v.length → (∀ e, e < j → v.getD e 0 = (Rs.getD a []).getD e 0) → yP (xg xs) (d + 4) 325 34 [(0, .ref 58), (1, .retAddr 26), (2, .int (nI a)), (3, .int (nI (Rs.getD a []).length)), (4, .int (nI t)), (5, .int (nI k)), (6, .int (nI j))] [] m Q := by
  have hl := dr_len hd
  simp only [List.length_append, List.length_cons] at hl
  have x3 := xl_6
  have of := offs_end ha ho
  have lt : ∀ e, e < (Rs.getD a []).length → m.1 60 (offs Rs a + e) = (Rs.getD a []).getD e 0 := fun e he => by
    have := hR.2.2.1 a ha
    rw [← nrAt_get (m := m) (a := offs Rs a) he, this]
  generalize hw : Rs.getD a [] = w at *
  intro q
  induction q with
  | zero =>
    intro j hj hjv hm
    have e : j = w.length := by omega
    subst e
    refine w325s6_34 xs (d + 3) _ _ _ _ _ m _ ⟨fun _ => ?_, fun z => absurd (Int32.le_refl _) z⟩
    refine w325s6_72 xs (d + 3) _ _ _ _ _ m _ ⟨fun z => absurd rfl z, fun _ => ?_⟩
    rw [nI_add]
    refine y_ci (c24_6 xs d m (k + w.length) (by omega)) (by omega) ?_
    rw [dr_get hd]
    by_cases hh : w.length < v.length
    · rw [wd_in hh]
      exact ⟨fun _ => K (fun z => by rw [z] at hh; omega), fun z => absurd z (no32 hv hh)⟩
    · have e : v.length = w.length := by omega
      have e2 : (v ++ 32 :: r).getD w.length 0 = 32 := by rw [← e]; exact wd_sp
      rw [e2]
      exact ⟨fun z => absurd rfl z, fun _ => K2 (li_ext e (fun x hx => hm x (by omega)))⟩
  | succ q ih =>
    intro j hj hjv hm
    have hjs : j < w.length := by omega
    have out : ¬ v = w → yP (xg xs) (d + 3 + 1) 325 72 [(0, .ref 58), (1, .retAddr 26), (2, .int (nI a)), (3, .int (nI w.length)), (4, .int (nI t)), (5, .int (nI k)), (6, .int (nI j))] [] m Q := fun z => w325s6_72 xs (d + 3) _ _ _ _ _ m _ ⟨fun _ => K z, fun y => absurd ((nI_eq (by omega) (by omega)).mp y) (by omega)⟩
    refine w325s6_34 xs (d + 3) _ _ _ _ _ m _ ⟨fun z => absurd z (nI_ge hjs (by omega)), fun _ => ?_⟩
    rw [nI_add]
    refine y_ci (c24_6 xs d m (k + j) (by omega)) (by omega) ⟨x_in_nI (by omega) (by decide), ?_⟩
    rw [nI_clamp (by omega), hR.2.1 a (by omega), nI_add, nI_clamp (by omega), lt j hjs, dr_get hd]
    refine ⟨x_in_nI (by omega) (by decide), fun z => out (fun y => ?_), fun z => ?_⟩
    · by_cases hh : j < v.length
      · rw [wd_in hh, y] at z
        exact z rfl
      · rw [y] at hh; omega
    · by_cases hh : j < v.length
      · rw [wd_in hh] at z
        rw [nI_1]
        refine ih (j + 1) (by omega) (by omega) (fun e he => ?_)
        rcases Nat.lt_or_ge e j with x | x
        · exact hm e x
        · rw [show e = j by omega]
          exact z
      · have e : v.length = j := by omega
        have e2 : (v ++ 32 :: r).getD j 0 = 32 := by rw [← e]; exact wd_sp
        rw [e2] at z
        exact absurd z.symm (no32 h32 hjs)
theorem c325_6 (xs : List Int32) (d : Nat) {m : yM} {Rs : List (List Int32)} (hR : NR m Rs) (ho : offs Rs Rs.length ≤ 8192) (hl8 : Rs.length ≤ 8192) {a : Nat} (ha : a < Rs.length) (h32 : (32 : Int32) ∉ Rs.getD a []) : yC (xg xs) (d + 4) 325 [.ref 58, .retAddr 26, .int (nI a)] m (fun r m' => r = some (.int (ixw (Rs.getD a []) ws6 0)) ∧ m' = m) := by
  have x3 := xl_6
  have of := offs_end ha ho
  have e1 : nI (offs Rs (a + 1)) - nI (offs Rs a) = nI (Rs.getD a []).length := by
    rw [offs_s Rs ha, nI_sub (by omega), Nat.add_sub_cancel_left]
  have lp : ∀ (ws : List (List Int32)) (t k : Nat), xsb_6.drop k = flw ws → (∀ v ∈ ws, (32 : Int32) ∉ v) → t + ws.length ≤ 100 → k ≤ xsb_6.length → yP (xg xs) (d + 4) 325 22 [(0, .ref 58), (1, .retAddr 26), (2, .int (nI a)), (3, .int (nI (Rs.getD a []).length)), (4, .int (nI t)), (5, .int (nI k))] [] m (fun r m' => r = some (.int (ixw (Rs.getD a []) ws t)) ∧ m' = m) := by
    intro ws
    induction ws with
    | nil =>
      intro t k hd _ _ hk
      have hl := dr_len hd
      have e : (flw ([] : List (List Int32))).length = 0 := rfl
      refine w325s6_22 xs (d + 3) _ _ _ _ m _ ?_
      refine y_ci (c22_6 xs d m) (by omega) ?_
      exact ⟨fun _ => ⟨rfl, rfl⟩, fun z => absurd (nI_le (a := xsb_6.length) (b := k) (by omega) (by omega)) (by rw [x3]; exact z)⟩
    | cons v ws ih =>
      intro t k hd hn ht hk
      have hd2 : xsb_6.drop k = v ++ 32 :: flw ws := by rw [hd]; simp [flw]
      have hl := dr_len hd2
      simp only [List.length_append, List.length_cons] at hl
      have es : ixw (Rs.getD a []) (v :: ws) t = if v = Rs.getD a [] then nI t else ixw (Rs.getD a []) ws (t + 1) := rfl
      refine w325s6_22 xs (d + 3) _ _ _ _ m _ ?_
      refine y_ci (c22_6 xs d m) (by omega) ?_
      refine ⟨fun z => absurd z (by have y := nI_ge (a := k) (b := xsb_6.length) (by omega) (by omega); rw [x3] at y; exact y), fun _ => ?_⟩
      refine c325C_6 xs d hR ho hl8 ha h32 _ t k v (flw ws) hd2 (hn v (by simp)) (fun z => ?_) (fun z => ⟨by rw [es, if_pos z], rfl⟩) _ 0 (Nat.zero_add _) (Nat.zero_le _) (fun e he => absurd he (Nat.not_lt_zero _))
      refine c325S_6 xs d m _ (nI a) _ t k v (flw ws) hd2 (hn v (by simp)) ?_ v.length 0 (by omega)
      rw [es, if_neg z]
      refine ih (t + 1) (k + v.length + 1) ?_ (fun x hx => hn x (by simp [hx])) (by simp at ht; omega) (by omega)
      have e := congrArg (List.drop (v.length + 1)) hd2
      rw [List.drop_drop] at e
      rw [show k + v.length + 1 = k + (v.length + 1) by omega, e]
      simp
  refine w325s6_0 xs (d + 3) _ m _ ?_
  rw [nI_1, nI_clamp (by omega), nI_clamp (by omega), hR.2.1 a (by omega), hR.2.1 (a + 1) (by omega), e1]
  refine ⟨x_in_nI (by omega) (by decide), x_in_nI (by omega) (by decide), ?_⟩
  refine lp ws6 0 1 ?_ (by decide +kernel) (by decide +kernel) (by rw [x3]; decide)
  have e := congrArg (List.drop 1) WS6
  rw [List.drop_succ_cons, List.drop_zero] at e
  exact e

def ws7 : List (List Int32) := [[73, 78], [48, 48], [80, 84], [49, 50], [124], [81], [50, 48], [69, 84], [51, 50]]
theorem WS7 : xsb_7 = 32 :: flw ws7 := by decide +kernel
theorem c325S_7 (xs : List Int32) (d : Nat) (m : yM) (Q : Option Value → yM → Prop) (l2 l3 : Int32) (t k : Nat) (v r : List Int32) (hd : xsb_7.drop k = v ++ 32 :: r) (hv : (32 : Int32) ∉ v) (K : yP (xg xs) (d + 4) 325 22 [(0, .ref 58), (1, .retAddr 27), (2, .int l2), (3, .int l3), (4, .int (nI (t + 1))), (5, .int (nI (k + v.length + 1)))] [] m Q) : ∀ q j : Nat, j + q = v.length → yP (xg xs) (d + 4) 325 95 [(0, .ref 58), (1, .retAddr 27), (2, .int l2), (3, .int l3), (4, .int (nI t)), (5, .int (nI (k + j)))] [] m Q := by
  have hl := dr_len hd
  simp only [List.length_append, List.length_cons] at hl
  have x3 := xl_7
  intro q
  induction q with
  | zero =>
    intro j hj
    refine w325s7_95 xs (d + 3) _ _ _ _ m _ ?_
    refine y_ci (c24_7 xs d m (k + j) (by omega)) (by omega) ?_
    rw [dr_get hd, show j = v.length by omega, wd_sp, nI_1, nI_1]
    exact ⟨fun _ => K, fun z => absurd rfl z⟩
  | succ q ih =>
    intro j hj
    refine w325s7_95 xs (d + 3) _ _ _ _ m _ ?_
    refine y_ci (c24_7 xs d m (k + j) (by omega)) (by omega) ?_
    rw [dr_get hd, wd_in (by omega), nI_1, nI_1]
    exact ⟨fun z => absurd z (no32 hv (by omega)), fun _ => ih (j + 1) (by omega)⟩
theorem c325C_7 (xs : List Int32) (d : Nat) {m : yM} {Rs : List (List Int32)} (hR : NR m Rs) (ho : offs Rs Rs.length ≤ 8192) (hl8 : Rs.length ≤ 8192) {a : Nat} (ha : a < Rs.length) (h32 : (32 : Int32) ∉ Rs.getD a []) (Q : Option Value → yM → Prop) (t k : Nat) (v r : List Int32) (hd : xsb_7.drop k = v ++ 32 :: r) (hv : (32 : Int32) ∉ v) (K : ¬ v = Rs.getD a [] → yP (xg xs) (d + 4) 325 95 [(0, .ref 58), (1, .retAddr 27), (2, .int (nI a)), (3, .int (nI (Rs.getD a []).length)), (4, .int (nI t)), (5, .int (nI k))] [] m Q) (K2 : v = Rs.getD a [] → Q (some (.int (nI t))) m) : ∀ q j : Nat, j + q = (Rs.getD a []).length → j ≤ v.length → (∀ e, e < j → v.getD e 0 = (Rs.getD a []).getD e 0) → yP (xg xs) (d + 4) 325 34 [(0, .ref 58), (1, .retAddr 27), (2, .int (nI a)), (3, .int (nI (Rs.getD a []).length)), (4, .int (nI t)), (5, .int (nI k)), (6, .int (nI j))] [] m Q := by
  have hl := dr_len hd
  simp only [List.length_append, List.length_cons] at hl
  have x3 := xl_7
  have of := offs_end ha ho
  have lt : ∀ e, e < (Rs.getD a []).length → m.1 60 (offs Rs a + e) = (Rs.getD a []).getD e 0 := fun e he => by
    have := hR.2.2.1 a ha
    rw [← nrAt_get (m := m) (a := offs Rs a) he, this]
  generalize hw : Rs.getD a [] = w at *
  intro q
  induction q with
  | zero =>
    intro j hj hjv hm
    have e : j = w.length := by omega
    subst e
    refine w325s7_34 xs (d + 3) _ _ _ _ _ m _ ⟨fun _ => ?_, fun z => absurd (Int32.le_refl _) z⟩
    refine w325s7_72 xs (d + 3) _ _ _ _ _ m _ ⟨fun z => absurd rfl z, fun _ => ?_⟩
    rw [nI_add]
    refine y_ci (c24_7 xs d m (k + w.length) (by omega)) (by omega) ?_
    rw [dr_get hd]
    by_cases hh : w.length < v.length
    · rw [wd_in hh]
      exact ⟨fun _ => K (fun z => by rw [z] at hh; omega), fun z => absurd z (no32 hv hh)⟩
    · have e : v.length = w.length := by omega
      have e2 : (v ++ 32 :: r).getD w.length 0 = 32 := by rw [← e]; exact wd_sp
      rw [e2]
      exact ⟨fun z => absurd rfl z, fun _ => K2 (li_ext e (fun x hx => hm x (by omega)))⟩
  | succ q ih =>
    intro j hj hjv hm
    have hjs : j < w.length := by omega
    have out : ¬ v = w → yP (xg xs) (d + 3 + 1) 325 72 [(0, .ref 58), (1, .retAddr 27), (2, .int (nI a)), (3, .int (nI w.length)), (4, .int (nI t)), (5, .int (nI k)), (6, .int (nI j))] [] m Q := fun z => w325s7_72 xs (d + 3) _ _ _ _ _ m _ ⟨fun _ => K z, fun y => absurd ((nI_eq (by omega) (by omega)).mp y) (by omega)⟩
    refine w325s7_34 xs (d + 3) _ _ _ _ _ m _ ⟨fun z => absurd z (nI_ge hjs (by omega)), fun _ => ?_⟩
    rw [nI_add]
    refine y_ci (c24_7 xs d m (k + j) (by omega)) (by omega) ⟨x_in_nI (by omega) (by decide), ?_⟩
    rw [nI_clamp (by omega), hR.2.1 a (by omega), nI_add, nI_clamp (by omega), lt j hjs, dr_get hd]
    refine ⟨x_in_nI (by omega) (by decide), fun z => out (fun y => ?_), fun z => ?_⟩
    · by_cases hh : j < v.length
      · rw [wd_in hh, y] at z
        exact z rfl
      · rw [y] at hh; omega
    · by_cases hh : j < v.length
      · rw [wd_in hh] at z
        rw [nI_1]
        refine ih (j + 1) (by omega) (by omega) (fun e he => ?_)
        rcases Nat.lt_or_ge e j with x | x
        · exact hm e x
        · rw [show e = j by omega]
          exact z
      · have e : v.length = j := by omega
        have e2 : (v ++ 32 :: r).getD j 0 = 32 := by rw [← e]; exact wd_sp
        rw [e2] at z
        exact absurd z.symm (no32 h32 hjs)
theorem c325_7 (xs : List Int32) (d : Nat) {m : yM} {Rs : List (List Int32)} (hR : NR m Rs) (ho : offs Rs Rs.length ≤ 8192) (hl8 : Rs.length ≤ 8192) {a : Nat} (ha : a < Rs.length) (h32 : (32 : Int32) ∉ Rs.getD a []) : yC (xg xs) (d + 4) 325 [.ref 58, .retAddr 27, .int (nI a)] m (fun r m' => r = some (.int (ixw (Rs.getD a []) ws7 0)) ∧ m' = m) := by
  have x3 := xl_7
  have of := offs_end ha ho
  have e1 : nI (offs Rs (a + 1)) - nI (offs Rs a) = nI (Rs.getD a []).length := by
    rw [offs_s Rs ha, nI_sub (by omega), Nat.add_sub_cancel_left]
  have lp : ∀ (ws : List (List Int32)) (t k : Nat), xsb_7.drop k = flw ws → (∀ v ∈ ws, (32 : Int32) ∉ v) → t + ws.length ≤ 100 → k ≤ xsb_7.length → yP (xg xs) (d + 4) 325 22 [(0, .ref 58), (1, .retAddr 27), (2, .int (nI a)), (3, .int (nI (Rs.getD a []).length)), (4, .int (nI t)), (5, .int (nI k))] [] m (fun r m' => r = some (.int (ixw (Rs.getD a []) ws t)) ∧ m' = m) := by
    intro ws
    induction ws with
    | nil =>
      intro t k hd _ _ hk
      have hl := dr_len hd
      have e : (flw ([] : List (List Int32))).length = 0 := rfl
      refine w325s7_22 xs (d + 3) _ _ _ _ m _ ?_
      refine y_ci (c22_7 xs d m) (by omega) ?_
      exact ⟨fun _ => ⟨rfl, rfl⟩, fun z => absurd (nI_le (a := xsb_7.length) (b := k) (by omega) (by omega)) (by rw [x3]; exact z)⟩
    | cons v ws ih =>
      intro t k hd hn ht hk
      have hd2 : xsb_7.drop k = v ++ 32 :: flw ws := by rw [hd]; simp [flw]
      have hl := dr_len hd2
      simp only [List.length_append, List.length_cons] at hl
      have es : ixw (Rs.getD a []) (v :: ws) t = if v = Rs.getD a [] then nI t else ixw (Rs.getD a []) ws (t + 1) := rfl
      refine w325s7_22 xs (d + 3) _ _ _ _ m _ ?_
      refine y_ci (c22_7 xs d m) (by omega) ?_
      refine ⟨fun z => absurd z (by have y := nI_ge (a := k) (b := xsb_7.length) (by omega) (by omega); rw [x3] at y; exact y), fun _ => ?_⟩
      refine c325C_7 xs d hR ho hl8 ha h32 _ t k v (flw ws) hd2 (hn v (by simp)) (fun z => ?_) (fun z => ⟨by rw [es, if_pos z], rfl⟩) _ 0 (Nat.zero_add _) (Nat.zero_le _) (fun e he => absurd he (Nat.not_lt_zero _))
      refine c325S_7 xs d m _ (nI a) _ t k v (flw ws) hd2 (hn v (by simp)) ?_ v.length 0 (by omega)
      rw [es, if_neg z]
      refine ih (t + 1) (k + v.length + 1) ?_ (fun x hx => hn x (by simp [hx])) (by simp at ht; omega) (by omega)
      have e := congrArg (List.drop (v.length + 1)) hd2
      rw [List.drop_drop] at e
      rw [show k + v.length + 1 = k + (v.length + 1) by omega, e]
      simp
  refine w325s7_0 xs (d + 3) _ m _ ?_
  rw [nI_1, nI_clamp (by omega), nI_clamp (by omega), hR.2.1 a (by omega), hR.2.1 (a + 1) (by omega), e1]
  refine ⟨x_in_nI (by omega) (by decide), x_in_nI (by omega) (by decide), ?_⟩
  refine lp ws7 0 1 ?_ (by decide +kernel) (by decide +kernel) (by rw [x3]; decide)
  have e := congrArg (List.drop 1) WS7
  rw [List.drop_succ_cons, List.drop_zero] at e
  exact e

def ws8 : List (List Int32) := [[67, 85], [48, 48], [82], [49, 48], [80, 86], [50, 49], [124], [81], [51, 48], [67, 86], [52, 49]]
theorem WS8 : xsb_8 = 32 :: flw ws8 := by decide +kernel
theorem c325S_8 (xs : List Int32) (d : Nat) (m : yM) (Q : Option Value → yM → Prop) (l2 l3 : Int32) (t k : Nat) (v r : List Int32) (hd : xsb_8.drop k = v ++ 32 :: r) (hv : (32 : Int32) ∉ v) (K : yP (xg xs) (d + 4) 325 22 [(0, .ref 58), (1, .retAddr 28), (2, .int l2), (3, .int l3), (4, .int (nI (t + 1))), (5, .int (nI (k + v.length + 1)))] [] m Q) : ∀ q j : Nat, j + q = v.length → yP (xg xs) (d + 4) 325 95 [(0, .ref 58), (1, .retAddr 28), (2, .int l2), (3, .int l3), (4, .int (nI t)), (5, .int (nI (k + j)))] [] m Q := by
  have hl := dr_len hd
  simp only [List.length_append, List.length_cons] at hl
  have x3 := xl_8
  intro q
  induction q with
  | zero =>
    intro j hj
    refine w325s8_95 xs (d + 3) _ _ _ _ m _ ?_
    refine y_ci (c24_8 xs d m (k + j) (by omega)) (by omega) ?_
    rw [dr_get hd, show j = v.length by omega, wd_sp, nI_1, nI_1]
    exact ⟨fun _ => K, fun z => absurd rfl z⟩
  | succ q ih =>
    intro j hj
    refine w325s8_95 xs (d + 3) _ _ _ _ m _ ?_
    refine y_ci (c24_8 xs d m (k + j) (by omega)) (by omega) ?_
    rw [dr_get hd, wd_in (by omega), nI_1, nI_1]
    exact ⟨fun z => absurd z (no32 hv (by omega)), fun _ => ih (j + 1) (by omega)⟩
theorem c325C_8 (xs : List Int32) (d : Nat) {m : yM} {Rs : List (List Int32)} (hR : NR m Rs) (ho : offs Rs Rs.length ≤ 8192) (hl8 : Rs.length ≤ 8192) {a : Nat} (ha : a < Rs.length) (h32 : (32 : Int32) ∉ Rs.getD a []) (Q : Option Value → yM → Prop) (t k : Nat) (v r : List Int32) (hd : xsb_8.drop k = v ++ 32 :: r) (hv : (32 : Int32) ∉ v) (K : ¬ v = Rs.getD a [] → yP (xg xs) (d + 4) 325 95 [(0, .ref 58), (1, .retAddr 28), (2, .int (nI a)), (3, .int (nI (Rs.getD a []).length)), (4, .int (nI t)), (5, .int (nI k))] [] m Q) (K2 : v = Rs.getD a [] → Q (some (.int (nI t))) m) : ∀ q j : Nat, j + q = (Rs.getD a []).length → j ≤ v.length → (∀ e, e < j → v.getD e 0 = (Rs.getD a []).getD e 0) → yP (xg xs) (d + 4) 325 34 [(0, .ref 58), (1, .retAddr 28), (2, .int (nI a)), (3, .int (nI (Rs.getD a []).length)), (4, .int (nI t)), (5, .int (nI k)), (6, .int (nI j))] [] m Q := by
  have hl := dr_len hd
  simp only [List.length_append, List.length_cons] at hl
  have x3 := xl_8
  have of := offs_end ha ho
  have lt : ∀ e, e < (Rs.getD a []).length → m.1 60 (offs Rs a + e) = (Rs.getD a []).getD e 0 := fun e he => by
    have := hR.2.2.1 a ha
    rw [← nrAt_get (m := m) (a := offs Rs a) he, this]
  generalize hw : Rs.getD a [] = w at *
  intro q
  induction q with
  | zero =>
    intro j hj hjv hm
    have e : j = w.length := by omega
    subst e
    refine w325s8_34 xs (d + 3) _ _ _ _ _ m _ ⟨fun _ => ?_, fun z => absurd (Int32.le_refl _) z⟩
    refine w325s8_72 xs (d + 3) _ _ _ _ _ m _ ⟨fun z => absurd rfl z, fun _ => ?_⟩
    rw [nI_add]
    refine y_ci (c24_8 xs d m (k + w.length) (by omega)) (by omega) ?_
    rw [dr_get hd]
    by_cases hh : w.length < v.length
    · rw [wd_in hh]
      exact ⟨fun _ => K (fun z => by rw [z] at hh; omega), fun z => absurd z (no32 hv hh)⟩
    · have e : v.length = w.length := by omega
      have e2 : (v ++ 32 :: r).getD w.length 0 = 32 := by rw [← e]; exact wd_sp
      rw [e2]
      exact ⟨fun z => absurd rfl z, fun _ => K2 (li_ext e (fun x hx => hm x (by omega)))⟩
  | succ q ih =>
    intro j hj hjv hm
    have hjs : j < w.length := by omega
    have out : ¬ v = w → yP (xg xs) (d + 3 + 1) 325 72 [(0, .ref 58), (1, .retAddr 28), (2, .int (nI a)), (3, .int (nI w.length)), (4, .int (nI t)), (5, .int (nI k)), (6, .int (nI j))] [] m Q := fun z => w325s8_72 xs (d + 3) _ _ _ _ _ m _ ⟨fun _ => K z, fun y => absurd ((nI_eq (by omega) (by omega)).mp y) (by omega)⟩
    refine w325s8_34 xs (d + 3) _ _ _ _ _ m _ ⟨fun z => absurd z (nI_ge hjs (by omega)), fun _ => ?_⟩
    rw [nI_add]
    refine y_ci (c24_8 xs d m (k + j) (by omega)) (by omega) ⟨x_in_nI (by omega) (by decide), ?_⟩
    rw [nI_clamp (by omega), hR.2.1 a (by omega), nI_add, nI_clamp (by omega), lt j hjs, dr_get hd]
    refine ⟨x_in_nI (by omega) (by decide), fun z => out (fun y => ?_), fun z => ?_⟩
    · by_cases hh : j < v.length
      · rw [wd_in hh, y] at z
        exact z rfl
      · rw [y] at hh; omega
    · by_cases hh : j < v.length
      · rw [wd_in hh] at z
        rw [nI_1]
        refine ih (j + 1) (by omega) (by omega) (fun e he => ?_)
        rcases Nat.lt_or_ge e j with x | x
        · exact hm e x
        · rw [show e = j by omega]
          exact z
      · have e : v.length = j := by omega
        have e2 : (v ++ 32 :: r).getD j 0 = 32 := by rw [← e]; exact wd_sp
        rw [e2] at z
        exact absurd z.symm (no32 h32 hjs)
theorem c325_8 (xs : List Int32) (d : Nat) {m : yM} {Rs : List (List Int32)} (hR : NR m Rs) (ho : offs Rs Rs.length ≤ 8192) (hl8 : Rs.length ≤ 8192) {a : Nat} (ha : a < Rs.length) (h32 : (32 : Int32) ∉ Rs.getD a []) : yC (xg xs) (d + 4) 325 [.ref 58, .retAddr 28, .int (nI a)] m (fun r m' => r = some (.int (ixw (Rs.getD a []) ws8 0)) ∧ m' = m) := by
  have x3 := xl_8
  have of := offs_end ha ho
  have e1 : nI (offs Rs (a + 1)) - nI (offs Rs a) = nI (Rs.getD a []).length := by
    rw [offs_s Rs ha, nI_sub (by omega), Nat.add_sub_cancel_left]
  have lp : ∀ (ws : List (List Int32)) (t k : Nat), xsb_8.drop k = flw ws → (∀ v ∈ ws, (32 : Int32) ∉ v) → t + ws.length ≤ 100 → k ≤ xsb_8.length → yP (xg xs) (d + 4) 325 22 [(0, .ref 58), (1, .retAddr 28), (2, .int (nI a)), (3, .int (nI (Rs.getD a []).length)), (4, .int (nI t)), (5, .int (nI k))] [] m (fun r m' => r = some (.int (ixw (Rs.getD a []) ws t)) ∧ m' = m) := by
    intro ws
    induction ws with
    | nil =>
      intro t k hd _ _ hk
      have hl := dr_len hd
      have e : (flw ([] : List (List Int32))).length = 0 := rfl
      refine w325s8_22 xs (d + 3) _ _ _ _ m _ ?_
      refine y_ci (c22_8 xs d m) (by omega) ?_
      exact ⟨fun _ => ⟨rfl, rfl⟩, fun z => absurd (nI_le (a := xsb_8.length) (b := k) (by omega) (by omega)) (by rw [x3]; exact z)⟩
    | cons v ws ih =>
      intro t k hd hn ht hk
      have hd2 : xsb_8.drop k = v ++ 32 :: flw ws := by rw [hd]; simp [flw]
      have hl := dr_len hd2
      simp only [List.length_append, List.length_cons] at hl
      have es : ixw (Rs.getD a []) (v :: ws) t = if v = Rs.getD a [] then nI t else ixw (Rs.getD a []) ws (t + 1) := rfl
      refine w325s8_22 xs (d + 3) _ _ _ _ m _ ?_
      refine y_ci (c22_8 xs d m) (by omega) ?_
      refine ⟨fun z => absurd z (by have y := nI_ge (a := k) (b := xsb_8.length) (by omega) (by omega); rw [x3] at y; exact y), fun _ => ?_⟩
      refine c325C_8 xs d hR ho hl8 ha h32 _ t k v (flw ws) hd2 (hn v (by simp)) (fun z => ?_) (fun z => ⟨by rw [es, if_pos z], rfl⟩) _ 0 (Nat.zero_add _) (Nat.zero_le _) (fun e he => absurd he (Nat.not_lt_zero _))
      refine c325S_8 xs d m _ (nI a) _ t k v (flw ws) hd2 (hn v (by simp)) ?_ v.length 0 (by omega)
      rw [es, if_neg z]
      refine ih (t + 1) (k + v.length + 1) ?_ (fun x hx => hn x (by simp [hx])) (by simp at ht; omega) (by omega)
      have e := congrArg (List.drop (v.length + 1)) hd2
      rw [List.drop_drop] at e
      rw [show k + v.length + 1 = k + (v.length + 1) by omega, e]
      simp
  refine w325s8_0 xs (d + 3) _ m _ ?_
  rw [nI_1, nI_clamp (by omega), nI_clamp (by omega), hR.2.1 a (by omega), hR.2.1 (a + 1) (by omega), e1]
  refine ⟨x_in_nI (by omega) (by decide), x_in_nI (by omega) (by decide), ?_⟩
  refine lp ws8 0 1 ?_ (by decide +kernel) (by decide +kernel) (by rw [x3]; decide)
  have e := congrArg (List.drop 1) WS8
  rw [List.drop_succ_cons, List.drop_zero] at e
  exact e

def ws9 : List (List Int32) := [[67, 68], [48, 48], [76, 68], [49, 48], [80, 86], [50, 49], [124], [81], [51, 48], [67, 86], [52, 49]]
theorem WS9 : xsb_9 = 32 :: flw ws9 := by decide +kernel
theorem c325S_9 (xs : List Int32) (d : Nat) (m : yM) (Q : Option Value → yM → Prop) (l2 l3 : Int32) (t k : Nat) (v r : List Int32) (hd : xsb_9.drop k = v ++ 32 :: r) (hv : (32 : Int32) ∉ v) (K : yP (xg xs) (d + 4) 325 22 [(0, .ref 58), (1, .retAddr 29), (2, .int l2), (3, .int l3), (4, .int (nI (t + 1))), (5, .int (nI (k + v.length + 1)))] [] m Q) : ∀ q j : Nat, j + q = v.length → yP (xg xs) (d + 4) 325 95 [(0, .ref 58), (1, .retAddr 29), (2, .int l2), (3, .int l3), (4, .int (nI t)), (5, .int (nI (k + j)))] [] m Q := by
  have hl := dr_len hd
  simp only [List.length_append, List.length_cons] at hl
  have x3 := xl_9
  intro q
  induction q with
  | zero =>
    intro j hj
    refine w325s9_95 xs (d + 3) _ _ _ _ m _ ?_
    refine y_ci (c24_9 xs d m (k + j) (by omega)) (by omega) ?_
    rw [dr_get hd, show j = v.length by omega, wd_sp, nI_1, nI_1]
    exact ⟨fun _ => K, fun z => absurd rfl z⟩
  | succ q ih =>
    intro j hj
    refine w325s9_95 xs (d + 3) _ _ _ _ m _ ?_
    refine y_ci (c24_9 xs d m (k + j) (by omega)) (by omega) ?_
    rw [dr_get hd, wd_in (by omega), nI_1, nI_1]
    exact ⟨fun z => absurd z (no32 hv (by omega)), fun _ => ih (j + 1) (by omega)⟩
theorem c325C_9 (xs : List Int32) (d : Nat) {m : yM} {Rs : List (List Int32)} (hR : NR m Rs) (ho : offs Rs Rs.length ≤ 8192) (hl8 : Rs.length ≤ 8192) {a : Nat} (ha : a < Rs.length) (h32 : (32 : Int32) ∉ Rs.getD a []) (Q : Option Value → yM → Prop) (t k : Nat) (v r : List Int32) (hd : xsb_9.drop k = v ++ 32 :: r) (hv : (32 : Int32) ∉ v) (K : ¬ v = Rs.getD a [] → yP (xg xs) (d + 4) 325 95 [(0, .ref 58), (1, .retAddr 29), (2, .int (nI a)), (3, .int (nI (Rs.getD a []).length)), (4, .int (nI t)), (5, .int (nI k))] [] m Q) (K2 : v = Rs.getD a [] → Q (some (.int (nI t))) m) : ∀ q j : Nat, j + q = (Rs.getD a []).length → j ≤ v.length → (∀ e, e < j → v.getD e 0 = (Rs.getD a []).getD e 0) → yP (xg xs) (d + 4) 325 34 [(0, .ref 58), (1, .retAddr 29), (2, .int (nI a)), (3, .int (nI (Rs.getD a []).length)), (4, .int (nI t)), (5, .int (nI k)), (6, .int (nI j))] [] m Q := by
  have hl := dr_len hd
  simp only [List.length_append, List.length_cons] at hl
  have x3 := xl_9
  have of := offs_end ha ho
  have lt : ∀ e, e < (Rs.getD a []).length → m.1 60 (offs Rs a + e) = (Rs.getD a []).getD e 0 := fun e he => by
    have := hR.2.2.1 a ha
    rw [← nrAt_get (m := m) (a := offs Rs a) he, this]
  generalize hw : Rs.getD a [] = w at *
  intro q
  induction q with
  | zero =>
    intro j hj hjv hm
    have e : j = w.length := by omega
    subst e
    refine w325s9_34 xs (d + 3) _ _ _ _ _ m _ ⟨fun _ => ?_, fun z => absurd (Int32.le_refl _) z⟩
    refine w325s9_72 xs (d + 3) _ _ _ _ _ m _ ⟨fun z => absurd rfl z, fun _ => ?_⟩
    rw [nI_add]
    refine y_ci (c24_9 xs d m (k + w.length) (by omega)) (by omega) ?_
    rw [dr_get hd]
    by_cases hh : w.length < v.length
    · rw [wd_in hh]
      exact ⟨fun _ => K (fun z => by rw [z] at hh; omega), fun z => absurd z (no32 hv hh)⟩
    · have e : v.length = w.length := by omega
      have e2 : (v ++ 32 :: r).getD w.length 0 = 32 := by rw [← e]; exact wd_sp
      rw [e2]
      exact ⟨fun z => absurd rfl z, fun _ => K2 (li_ext e (fun x hx => hm x (by omega)))⟩
  | succ q ih =>
    intro j hj hjv hm
    have hjs : j < w.length := by omega
    have out : ¬ v = w → yP (xg xs) (d + 3 + 1) 325 72 [(0, .ref 58), (1, .retAddr 29), (2, .int (nI a)), (3, .int (nI w.length)), (4, .int (nI t)), (5, .int (nI k)), (6, .int (nI j))] [] m Q := fun z => w325s9_72 xs (d + 3) _ _ _ _ _ m _ ⟨fun _ => K z, fun y => absurd ((nI_eq (by omega) (by omega)).mp y) (by omega)⟩
    refine w325s9_34 xs (d + 3) _ _ _ _ _ m _ ⟨fun z => absurd z (nI_ge hjs (by omega)), fun _ => ?_⟩
    rw [nI_add]
    refine y_ci (c24_9 xs d m (k + j) (by omega)) (by omega) ⟨x_in_nI (by omega) (by decide), ?_⟩
    rw [nI_clamp (by omega), hR.2.1 a (by omega), nI_add, nI_clamp (by omega), lt j hjs, dr_get hd]
    refine ⟨x_in_nI (by omega) (by decide), fun z => out (fun y => ?_), fun z => ?_⟩
    · by_cases hh : j < v.length
      · rw [wd_in hh, y] at z
        exact z rfl
      · rw [y] at hh; omega
    · by_cases hh : j < v.length
      · rw [wd_in hh] at z
        rw [nI_1]
        refine ih (j + 1) (by omega) (by omega) (fun e he => ?_)
        rcases Nat.lt_or_ge e j with x | x
        · exact hm e x
        · rw [show e = j by omega]
          exact z
      · have e : v.length = j := by omega
        have e2 : (v ++ 32 :: r).getD j 0 = 32 := by rw [← e]; exact wd_sp
        rw [e2] at z
        exact absurd z.symm (no32 h32 hjs)
theorem c325_9 (xs : List Int32) (d : Nat) {m : yM} {Rs : List (List Int32)} (hR : NR m Rs) (ho : offs Rs Rs.length ≤ 8192) (hl8 : Rs.length ≤ 8192) {a : Nat} (ha : a < Rs.length) (h32 : (32 : Int32) ∉ Rs.getD a []) : yC (xg xs) (d + 4) 325 [.ref 58, .retAddr 29, .int (nI a)] m (fun r m' => r = some (.int (ixw (Rs.getD a []) ws9 0)) ∧ m' = m) := by
  have x3 := xl_9
  have of := offs_end ha ho
  have e1 : nI (offs Rs (a + 1)) - nI (offs Rs a) = nI (Rs.getD a []).length := by
    rw [offs_s Rs ha, nI_sub (by omega), Nat.add_sub_cancel_left]
  have lp : ∀ (ws : List (List Int32)) (t k : Nat), xsb_9.drop k = flw ws → (∀ v ∈ ws, (32 : Int32) ∉ v) → t + ws.length ≤ 100 → k ≤ xsb_9.length → yP (xg xs) (d + 4) 325 22 [(0, .ref 58), (1, .retAddr 29), (2, .int (nI a)), (3, .int (nI (Rs.getD a []).length)), (4, .int (nI t)), (5, .int (nI k))] [] m (fun r m' => r = some (.int (ixw (Rs.getD a []) ws t)) ∧ m' = m) := by
    intro ws
    induction ws with
    | nil =>
      intro t k hd _ _ hk
      have hl := dr_len hd
      have e : (flw ([] : List (List Int32))).length = 0 := rfl
      refine w325s9_22 xs (d + 3) _ _ _ _ m _ ?_
      refine y_ci (c22_9 xs d m) (by omega) ?_
      exact ⟨fun _ => ⟨rfl, rfl⟩, fun z => absurd (nI_le (a := xsb_9.length) (b := k) (by omega) (by omega)) (by rw [x3]; exact z)⟩
    | cons v ws ih =>
      intro t k hd hn ht hk
      have hd2 : xsb_9.drop k = v ++ 32 :: flw ws := by rw [hd]; simp [flw]
      have hl := dr_len hd2
      simp only [List.length_append, List.length_cons] at hl
      have es : ixw (Rs.getD a []) (v :: ws) t = if v = Rs.getD a [] then nI t else ixw (Rs.getD a []) ws (t + 1) := rfl
      refine w325s9_22 xs (d + 3) _ _ _ _ m _ ?_
      refine y_ci (c22_9 xs d m) (by omega) ?_
      refine ⟨fun z => absurd z (by have y := nI_ge (a := k) (b := xsb_9.length) (by omega) (by omega); rw [x3] at y; exact y), fun _ => ?_⟩
      refine c325C_9 xs d hR ho hl8 ha h32 _ t k v (flw ws) hd2 (hn v (by simp)) (fun z => ?_) (fun z => ⟨by rw [es, if_pos z], rfl⟩) _ 0 (Nat.zero_add _) (Nat.zero_le _) (fun e he => absurd he (Nat.not_lt_zero _))
      refine c325S_9 xs d m _ (nI a) _ t k v (flw ws) hd2 (hn v (by simp)) ?_ v.length 0 (by omega)
      rw [es, if_neg z]
      refine ih (t + 1) (k + v.length + 1) ?_ (fun x hx => hn x (by simp [hx])) (by simp at ht; omega) (by omega)
      have e := congrArg (List.drop (v.length + 1)) hd2
      rw [List.drop_drop] at e
      rw [show k + v.length + 1 = k + (v.length + 1) by omega, e]
      simp
  refine w325s9_0 xs (d + 3) _ m _ ?_
  rw [nI_1, nI_clamp (by omega), nI_clamp (by omega), hR.2.1 a (by omega), hR.2.1 (a + 1) (by omega), e1]
  refine ⟨x_in_nI (by omega) (by decide), x_in_nI (by omega) (by decide), ?_⟩
  refine lp ws9 0 1 ?_ (by decide +kernel) (by decide +kernel) (by rw [x3]; decide)
  have e := congrArg (List.drop 1) WS9
  rw [List.drop_succ_cons, List.drop_zero] at e
  exact e

def ws10 : List (List Int32) := [[67, 76, 75], [48, 48], [124], [81], [49, 48]]
theorem WS10 : xsb_10 = 32 :: flw ws10 := by decide +kernel
theorem c325S_10 (xs : List Int32) (d : Nat) (m : yM) (Q : Option Value → yM → Prop) (l2 l3 : Int32) (t k : Nat) (v r : List Int32) (hd : xsb_10.drop k = v ++ 32 :: r) (hv : (32 : Int32) ∉ v) (K : yP (xg xs) (d + 4) 325 22 [(0, .ref 58), (1, .retAddr 30), (2, .int l2), (3, .int l3), (4, .int (nI (t + 1))), (5, .int (nI (k + v.length + 1)))] [] m Q) : ∀ q j : Nat, j + q = v.length → yP (xg xs) (d + 4) 325 95 [(0, .ref 58), (1, .retAddr 30), (2, .int l2), (3, .int l3), (4, .int (nI t)), (5, .int (nI (k + j)))] [] m Q := by
  have hl := dr_len hd
  simp only [List.length_append, List.length_cons] at hl
  have x3 := xl_10
  intro q
  induction q with
  | zero =>
    intro j hj
    refine w325s10_95 xs (d + 3) _ _ _ _ m _ ?_
    refine y_ci (c24_10 xs d m (k + j) (by omega)) (by omega) ?_
    rw [dr_get hd, show j = v.length by omega, wd_sp, nI_1, nI_1]
    exact ⟨fun _ => K, fun z => absurd rfl z⟩
  | succ q ih =>
    intro j hj
    refine w325s10_95 xs (d + 3) _ _ _ _ m _ ?_
    refine y_ci (c24_10 xs d m (k + j) (by omega)) (by omega) ?_
    rw [dr_get hd, wd_in (by omega), nI_1, nI_1]
    exact ⟨fun z => absurd z (no32 hv (by omega)), fun _ => ih (j + 1) (by omega)⟩
theorem c325C_10 (xs : List Int32) (d : Nat) {m : yM} {Rs : List (List Int32)} (hR : NR m Rs) (ho : offs Rs Rs.length ≤ 8192) (hl8 : Rs.length ≤ 8192) {a : Nat} (ha : a < Rs.length) (h32 : (32 : Int32) ∉ Rs.getD a []) (Q : Option Value → yM → Prop) (t k : Nat) (v r : List Int32) (hd : xsb_10.drop k = v ++ 32 :: r) (hv : (32 : Int32) ∉ v) (K : ¬ v = Rs.getD a [] → yP (xg xs) (d + 4) 325 95 [(0, .ref 58), (1, .retAddr 30), (2, .int (nI a)), (3, .int (nI (Rs.getD a []).length)), (4, .int (nI t)), (5, .int (nI k))] [] m Q) (K2 : v = Rs.getD a [] → Q (some (.int (nI t))) m) : ∀ q j : Nat, j + q = (Rs.getD a []).length → j ≤ v.length → (∀ e, e < j → v.getD e 0 = (Rs.getD a []).getD e 0) → yP (xg xs) (d + 4) 325 34 [(0, .ref 58), (1, .retAddr 30), (2, .int (nI a)), (3, .int (nI (Rs.getD a []).length)), (4, .int (nI t)), (5, .int (nI k)), (6, .int (nI j))] [] m Q := by
  have hl := dr_len hd
  simp only [List.length_append, List.length_cons] at hl
  have x3 := xl_10
  have of := offs_end ha ho
  have lt : ∀ e, e < (Rs.getD a []).length → m.1 60 (offs Rs a + e) = (Rs.getD a []).getD e 0 := fun e he => by
    have := hR.2.2.1 a ha
    rw [← nrAt_get (m := m) (a := offs Rs a) he, this]
  generalize hw : Rs.getD a [] = w at *
  intro q
  induction q with
  | zero =>
    intro j hj hjv hm
    have e : j = w.length := by omega
    subst e
    refine w325s10_34 xs (d + 3) _ _ _ _ _ m _ ⟨fun _ => ?_, fun z => absurd (Int32.le_refl _) z⟩
    refine w325s10_72 xs (d + 3) _ _ _ _ _ m _ ⟨fun z => absurd rfl z, fun _ => ?_⟩
    rw [nI_add]
    refine y_ci (c24_10 xs d m (k + w.length) (by omega)) (by omega) ?_
    rw [dr_get hd]
    by_cases hh : w.length < v.length
    · rw [wd_in hh]
      exact ⟨fun _ => K (fun z => by rw [z] at hh; omega), fun z => absurd z (no32 hv hh)⟩
    · have e : v.length = w.length := by omega
      have e2 : (v ++ 32 :: r).getD w.length 0 = 32 := by rw [← e]; exact wd_sp
      rw [e2]
      exact ⟨fun z => absurd rfl z, fun _ => K2 (li_ext e (fun x hx => hm x (by omega)))⟩
  | succ q ih =>
    intro j hj hjv hm
    have hjs : j < w.length := by omega
    have out : ¬ v = w → yP (xg xs) (d + 3 + 1) 325 72 [(0, .ref 58), (1, .retAddr 30), (2, .int (nI a)), (3, .int (nI w.length)), (4, .int (nI t)), (5, .int (nI k)), (6, .int (nI j))] [] m Q := fun z => w325s10_72 xs (d + 3) _ _ _ _ _ m _ ⟨fun _ => K z, fun y => absurd ((nI_eq (by omega) (by omega)).mp y) (by omega)⟩
    refine w325s10_34 xs (d + 3) _ _ _ _ _ m _ ⟨fun z => absurd z (nI_ge hjs (by omega)), fun _ => ?_⟩
    rw [nI_add]
    refine y_ci (c24_10 xs d m (k + j) (by omega)) (by omega) ⟨x_in_nI (by omega) (by decide), ?_⟩
    rw [nI_clamp (by omega), hR.2.1 a (by omega), nI_add, nI_clamp (by omega), lt j hjs, dr_get hd]
    refine ⟨x_in_nI (by omega) (by decide), fun z => out (fun y => ?_), fun z => ?_⟩
    · by_cases hh : j < v.length
      · rw [wd_in hh, y] at z
        exact z rfl
      · rw [y] at hh; omega
    · by_cases hh : j < v.length
      · rw [wd_in hh] at z
        rw [nI_1]
        refine ih (j + 1) (by omega) (by omega) (fun e he => ?_)
        rcases Nat.lt_or_ge e j with x | x
        · exact hm e x
        · rw [show e = j by omega]
          exact z
      · have e : v.length = j := by omega
        have e2 : (v ++ 32 :: r).getD j 0 = 32 := by rw [← e]; exact wd_sp
        rw [e2] at z
        exact absurd z.symm (no32 h32 hjs)
theorem c325_10 (xs : List Int32) (d : Nat) {m : yM} {Rs : List (List Int32)} (hR : NR m Rs) (ho : offs Rs Rs.length ≤ 8192) (hl8 : Rs.length ≤ 8192) {a : Nat} (ha : a < Rs.length) (h32 : (32 : Int32) ∉ Rs.getD a []) : yC (xg xs) (d + 4) 325 [.ref 58, .retAddr 30, .int (nI a)] m (fun r m' => r = some (.int (ixw (Rs.getD a []) ws10 0)) ∧ m' = m) := by
  have x3 := xl_10
  have of := offs_end ha ho
  have e1 : nI (offs Rs (a + 1)) - nI (offs Rs a) = nI (Rs.getD a []).length := by
    rw [offs_s Rs ha, nI_sub (by omega), Nat.add_sub_cancel_left]
  have lp : ∀ (ws : List (List Int32)) (t k : Nat), xsb_10.drop k = flw ws → (∀ v ∈ ws, (32 : Int32) ∉ v) → t + ws.length ≤ 100 → k ≤ xsb_10.length → yP (xg xs) (d + 4) 325 22 [(0, .ref 58), (1, .retAddr 30), (2, .int (nI a)), (3, .int (nI (Rs.getD a []).length)), (4, .int (nI t)), (5, .int (nI k))] [] m (fun r m' => r = some (.int (ixw (Rs.getD a []) ws t)) ∧ m' = m) := by
    intro ws
    induction ws with
    | nil =>
      intro t k hd _ _ hk
      have hl := dr_len hd
      have e : (flw ([] : List (List Int32))).length = 0 := rfl
      refine w325s10_22 xs (d + 3) _ _ _ _ m _ ?_
      refine y_ci (c22_10 xs d m) (by omega) ?_
      exact ⟨fun _ => ⟨rfl, rfl⟩, fun z => absurd (nI_le (a := xsb_10.length) (b := k) (by omega) (by omega)) (by rw [x3]; exact z)⟩
    | cons v ws ih =>
      intro t k hd hn ht hk
      have hd2 : xsb_10.drop k = v ++ 32 :: flw ws := by rw [hd]; simp [flw]
      have hl := dr_len hd2
      simp only [List.length_append, List.length_cons] at hl
      have es : ixw (Rs.getD a []) (v :: ws) t = if v = Rs.getD a [] then nI t else ixw (Rs.getD a []) ws (t + 1) := rfl
      refine w325s10_22 xs (d + 3) _ _ _ _ m _ ?_
      refine y_ci (c22_10 xs d m) (by omega) ?_
      refine ⟨fun z => absurd z (by have y := nI_ge (a := k) (b := xsb_10.length) (by omega) (by omega); rw [x3] at y; exact y), fun _ => ?_⟩
      refine c325C_10 xs d hR ho hl8 ha h32 _ t k v (flw ws) hd2 (hn v (by simp)) (fun z => ?_) (fun z => ⟨by rw [es, if_pos z], rfl⟩) _ 0 (Nat.zero_add _) (Nat.zero_le _) (fun e he => absurd he (Nat.not_lt_zero _))
      refine c325S_10 xs d m _ (nI a) _ t k v (flw ws) hd2 (hn v (by simp)) ?_ v.length 0 (by omega)
      rw [es, if_neg z]
      refine ih (t + 1) (k + v.length + 1) ?_ (fun x hx => hn x (by simp [hx])) (by simp at ht; omega) (by omega)
      have e := congrArg (List.drop (v.length + 1)) hd2
      rw [List.drop_drop] at e
      rw [show k + v.length + 1 = k + (v.length + 1) by omega, e]
      simp
  refine w325s10_0 xs (d + 3) _ m _ ?_
  rw [nI_1, nI_clamp (by omega), nI_clamp (by omega), hR.2.1 a (by omega), hR.2.1 (a + 1) (by omega), e1]
  refine ⟨x_in_nI (by omega) (by decide), x_in_nI (by omega) (by decide), ?_⟩
  refine lp ws10 0 1 ?_ (by decide +kernel) (by decide +kernel) (by rw [x3]; decide)
  have e := congrArg (List.drop 1) WS10
  rw [List.drop_succ_cons, List.drop_zero] at e
  exact e

def ws11 : List (List Int32) := [[83, 49], [48, 48], [82], [49, 48], [124], [81, 49], [50, 48]]
theorem WS11 : xsb_11 = 32 :: flw ws11 := by decide +kernel
theorem c325S_11 (xs : List Int32) (d : Nat) (m : yM) (Q : Option Value → yM → Prop) (l2 l3 : Int32) (t k : Nat) (v r : List Int32) (hd : xsb_11.drop k = v ++ 32 :: r) (hv : (32 : Int32) ∉ v) (K : yP (xg xs) (d + 4) 325 22 [(0, .ref 58), (1, .retAddr 31), (2, .int l2), (3, .int l3), (4, .int (nI (t + 1))), (5, .int (nI (k + v.length + 1)))] [] m Q) : ∀ q j : Nat, j + q = v.length → yP (xg xs) (d + 4) 325 95 [(0, .ref 58), (1, .retAddr 31), (2, .int l2), (3, .int l3), (4, .int (nI t)), (5, .int (nI (k + j)))] [] m Q := by
  have hl := dr_len hd
  simp only [List.length_append, List.length_cons] at hl
  have x3 := xl_11
  intro q
  induction q with
  | zero =>
    intro j hj
    refine w325s11_95 xs (d + 3) _ _ _ _ m _ ?_
    refine y_ci (c24_11 xs d m (k + j) (by omega)) (by omega) ?_
    rw [dr_get hd, show j = v.length by omega, wd_sp, nI_1, nI_1]
    exact ⟨fun _ => K, fun z => absurd rfl z⟩
  | succ q ih =>
    intro j hj
    refine w325s11_95 xs (d + 3) _ _ _ _ m _ ?_
    refine y_ci (c24_11 xs d m (k + j) (by omega)) (by omega) ?_
    rw [dr_get hd, wd_in (by omega), nI_1, nI_1]
    exact ⟨fun z => absurd z (no32 hv (by omega)), fun _ => ih (j + 1) (by omega)⟩
theorem c325C_11 (xs : List Int32) (d : Nat) {m : yM} {Rs : List (List Int32)} (hR : NR m Rs) (ho : offs Rs Rs.length ≤ 8192) (hl8 : Rs.length ≤ 8192) {a : Nat} (ha : a < Rs.length) (h32 : (32 : Int32) ∉ Rs.getD a []) (Q : Option Value → yM → Prop) (t k : Nat) (v r : List Int32) (hd : xsb_11.drop k = v ++ 32 :: r) (hv : (32 : Int32) ∉ v) (K : ¬ v = Rs.getD a [] → yP (xg xs) (d + 4) 325 95 [(0, .ref 58), (1, .retAddr 31), (2, .int (nI a)), (3, .int (nI (Rs.getD a []).length)), (4, .int (nI t)), (5, .int (nI k))] [] m Q) (K2 : v = Rs.getD a [] → Q (some (.int (nI t))) m) : ∀ q j : Nat, j + q = (Rs.getD a []).length → j ≤ v.length → (∀ e, e < j → v.getD e 0 = (Rs.getD a []).getD e 0) → yP (xg xs) (d + 4) 325 34 [(0, .ref 58), (1, .retAddr 31), (2, .int (nI a)), (3, .int (nI (Rs.getD a []).length)), (4, .int (nI t)), (5, .int (nI k)), (6, .int (nI j))] [] m Q := by
  have hl := dr_len hd
  simp only [List.length_append, List.length_cons] at hl
  have x3 := xl_11
  have of := offs_end ha ho
  have lt : ∀ e, e < (Rs.getD a []).length → m.1 60 (offs Rs a + e) = (Rs.getD a []).getD e 0 := fun e he => by
    have := hR.2.2.1 a ha
    rw [← nrAt_get (m := m) (a := offs Rs a) he, this]
  generalize hw : Rs.getD a [] = w at *
  intro q
  induction q with
  | zero =>
    intro j hj hjv hm
    have e : j = w.length := by omega
    subst e
    refine w325s11_34 xs (d + 3) _ _ _ _ _ m _ ⟨fun _ => ?_, fun z => absurd (Int32.le_refl _) z⟩
    refine w325s11_72 xs (d + 3) _ _ _ _ _ m _ ⟨fun z => absurd rfl z, fun _ => ?_⟩
    rw [nI_add]
    refine y_ci (c24_11 xs d m (k + w.length) (by omega)) (by omega) ?_
    rw [dr_get hd]
    by_cases hh : w.length < v.length
    · rw [wd_in hh]
      exact ⟨fun _ => K (fun z => by rw [z] at hh; omega), fun z => absurd z (no32 hv hh)⟩
    · have e : v.length = w.length := by omega
      have e2 : (v ++ 32 :: r).getD w.length 0 = 32 := by rw [← e]; exact wd_sp
      rw [e2]
      exact ⟨fun z => absurd rfl z, fun _ => K2 (li_ext e (fun x hx => hm x (by omega)))⟩
  | succ q ih =>
    intro j hj hjv hm
    have hjs : j < w.length := by omega
    have out : ¬ v = w → yP (xg xs) (d + 3 + 1) 325 72 [(0, .ref 58), (1, .retAddr 31), (2, .int (nI a)), (3, .int (nI w.length)), (4, .int (nI t)), (5, .int (nI k)), (6, .int (nI j))] [] m Q := fun z => w325s11_72 xs (d + 3) _ _ _ _ _ m _ ⟨fun _ => K z, fun y => absurd ((nI_eq (by omega) (by omega)).mp y) (by omega)⟩
    refine w325s11_34 xs (d + 3) _ _ _ _ _ m _ ⟨fun z => absurd z (nI_ge hjs (by omega)), fun _ => ?_⟩
    rw [nI_add]
    refine y_ci (c24_11 xs d m (k + j) (by omega)) (by omega) ⟨x_in_nI (by omega) (by decide), ?_⟩
    rw [nI_clamp (by omega), hR.2.1 a (by omega), nI_add, nI_clamp (by omega), lt j hjs, dr_get hd]
    refine ⟨x_in_nI (by omega) (by decide), fun z => out (fun y => ?_), fun z => ?_⟩
    · by_cases hh : j < v.length
      · rw [wd_in hh, y] at z
        exact z rfl
      · rw [y] at hh; omega
    · by_cases hh : j < v.length
      · rw [wd_in hh] at z
        rw [nI_1]
        refine ih (j + 1) (by omega) (by omega) (fun e he => ?_)
        rcases Nat.lt_or_ge e j with x | x
        · exact hm e x
        · rw [show e = j by omega]
          exact z
      · have e : v.length = j := by omega
        have e2 : (v ++ 32 :: r).getD j 0 = 32 := by rw [← e]; exact wd_sp
        rw [e2] at z
        exact absurd z.symm (no32 h32 hjs)
theorem c325_11 (xs : List Int32) (d : Nat) {m : yM} {Rs : List (List Int32)} (hR : NR m Rs) (ho : offs Rs Rs.length ≤ 8192) (hl8 : Rs.length ≤ 8192) {a : Nat} (ha : a < Rs.length) (h32 : (32 : Int32) ∉ Rs.getD a []) : yC (xg xs) (d + 4) 325 [.ref 58, .retAddr 31, .int (nI a)] m (fun r m' => r = some (.int (ixw (Rs.getD a []) ws11 0)) ∧ m' = m) := by
  have x3 := xl_11
  have of := offs_end ha ho
  have e1 : nI (offs Rs (a + 1)) - nI (offs Rs a) = nI (Rs.getD a []).length := by
    rw [offs_s Rs ha, nI_sub (by omega), Nat.add_sub_cancel_left]
  have lp : ∀ (ws : List (List Int32)) (t k : Nat), xsb_11.drop k = flw ws → (∀ v ∈ ws, (32 : Int32) ∉ v) → t + ws.length ≤ 100 → k ≤ xsb_11.length → yP (xg xs) (d + 4) 325 22 [(0, .ref 58), (1, .retAddr 31), (2, .int (nI a)), (3, .int (nI (Rs.getD a []).length)), (4, .int (nI t)), (5, .int (nI k))] [] m (fun r m' => r = some (.int (ixw (Rs.getD a []) ws t)) ∧ m' = m) := by
    intro ws
    induction ws with
    | nil =>
      intro t k hd _ _ hk
      have hl := dr_len hd
      have e : (flw ([] : List (List Int32))).length = 0 := rfl
      refine w325s11_22 xs (d + 3) _ _ _ _ m _ ?_
      refine y_ci (c22_11 xs d m) (by omega) ?_
      exact ⟨fun _ => ⟨rfl, rfl⟩, fun z => absurd (nI_le (a := xsb_11.length) (b := k) (by omega) (by omega)) (by rw [x3]; exact z)⟩
    | cons v ws ih =>
      intro t k hd hn ht hk
      have hd2 : xsb_11.drop k = v ++ 32 :: flw ws := by rw [hd]; simp [flw]
      have hl := dr_len hd2
      simp only [List.length_append, List.length_cons] at hl
      have es : ixw (Rs.getD a []) (v :: ws) t = if v = Rs.getD a [] then nI t else ixw (Rs.getD a []) ws (t + 1) := rfl
      refine w325s11_22 xs (d + 3) _ _ _ _ m _ ?_
      refine y_ci (c22_11 xs d m) (by omega) ?_
      refine ⟨fun z => absurd z (by have y := nI_ge (a := k) (b := xsb_11.length) (by omega) (by omega); rw [x3] at y; exact y), fun _ => ?_⟩
      refine c325C_11 xs d hR ho hl8 ha h32 _ t k v (flw ws) hd2 (hn v (by simp)) (fun z => ?_) (fun z => ⟨by rw [es, if_pos z], rfl⟩) _ 0 (Nat.zero_add _) (Nat.zero_le _) (fun e he => absurd he (Nat.not_lt_zero _))
      refine c325S_11 xs d m _ (nI a) _ t k v (flw ws) hd2 (hn v (by simp)) ?_ v.length 0 (by omega)
      rw [es, if_neg z]
      refine ih (t + 1) (k + v.length + 1) ?_ (fun x hx => hn x (by simp [hx])) (by simp at ht; omega) (by omega)
      have e := congrArg (List.drop (v.length + 1)) hd2
      rw [List.drop_drop] at e
      rw [show k + v.length + 1 = k + (v.length + 1) by omega, e]
      simp
  refine w325s11_0 xs (d + 3) _ m _ ?_
  rw [nI_1, nI_clamp (by omega), nI_clamp (by omega), hR.2.1 a (by omega), hR.2.1 (a + 1) (by omega), e1]
  refine ⟨x_in_nI (by omega) (by decide), x_in_nI (by omega) (by decide), ?_⟩
  refine lp ws11 0 1 ?_ (by decide +kernel) (by decide +kernel) (by rw [x3]; decide)
  have e := congrArg (List.drop 1) WS11
  rw [List.drop_succ_cons, List.drop_zero] at e
  exact e

def ws12 : List (List Int32) := [[83], [48, 48], [82, 49], [49, 48], [124], [81, 49], [50, 48]]
theorem WS12 : xsb_12 = 32 :: flw ws12 := by decide +kernel
theorem c325S_12 (xs : List Int32) (d : Nat) (m : yM) (Q : Option Value → yM → Prop) (l2 l3 : Int32) (t k : Nat) (v r : List Int32) (hd : xsb_12.drop k = v ++ 32 :: r) (hv : (32 : Int32) ∉ v) (K : yP (xg xs) (d + 4) 325 22 [(0, .ref 58), (1, .retAddr 32), (2, .int l2), (3, .int l3), (4, .int (nI (t + 1))), (5, .int (nI (k + v.length + 1)))] [] m Q) : ∀ q j : Nat, j + q = v.length → yP (xg xs) (d + 4) 325 95 [(0, .ref 58), (1, .retAddr 32), (2, .int l2), (3, .int l3), (4, .int (nI t)), (5, .int (nI (k + j)))] [] m Q := by
  have hl := dr_len hd
  simp only [List.length_append, List.length_cons] at hl
  have x3 := xl_12
  intro q
  induction q with
  | zero =>
    intro j hj
    refine w325s12_95 xs (d + 3) _ _ _ _ m _ ?_
    refine y_ci (c24_12 xs d m (k + j) (by omega)) (by omega) ?_
    rw [dr_get hd, show j = v.length by omega, wd_sp, nI_1, nI_1]
    exact ⟨fun _ => K, fun z => absurd rfl z⟩
  | succ q ih =>
    intro j hj
    refine w325s12_95 xs (d + 3) _ _ _ _ m _ ?_
    refine y_ci (c24_12 xs d m (k + j) (by omega)) (by omega) ?_
    rw [dr_get hd, wd_in (by omega), nI_1, nI_1]
    exact ⟨fun z => absurd z (no32 hv (by omega)), fun _ => ih (j + 1) (by omega)⟩
theorem c325C_12 (xs : List Int32) (d : Nat) {m : yM} {Rs : List (List Int32)} (hR : NR m Rs) (ho : offs Rs Rs.length ≤ 8192) (hl8 : Rs.length ≤ 8192) {a : Nat} (ha : a < Rs.length) (h32 : (32 : Int32) ∉ Rs.getD a []) (Q : Option Value → yM → Prop) (t k : Nat) (v r : List Int32) (hd : xsb_12.drop k = v ++ 32 :: r) (hv : (32 : Int32) ∉ v) (K : ¬ v = Rs.getD a [] → yP (xg xs) (d + 4) 325 95 [(0, .ref 58), (1, .retAddr 32), (2, .int (nI a)), (3, .int (nI (Rs.getD a []).length)), (4, .int (nI t)), (5, .int (nI k))] [] m Q) (K2 : v = Rs.getD a [] → Q (some (.int (nI t))) m) : ∀ q j : Nat, j + q = (Rs.getD a []).length → j ≤ v.length → (∀ e, e < j → v.getD e 0 = (Rs.getD a []).getD e 0) → yP (xg xs) (d + 4) 325 34 [(0, .ref 58), (1, .retAddr 32), (2, .int (nI a)), (3, .int (nI (Rs.getD a []).length)), (4, .int (nI t)), (5, .int (nI k)), (6, .int (nI j))] [] m Q := by
  have hl := dr_len hd
  simp only [List.length_append, List.length_cons] at hl
  have x3 := xl_12
  have of := offs_end ha ho
  have lt : ∀ e, e < (Rs.getD a []).length → m.1 60 (offs Rs a + e) = (Rs.getD a []).getD e 0 := fun e he => by
    have := hR.2.2.1 a ha
    rw [← nrAt_get (m := m) (a := offs Rs a) he, this]
  generalize hw : Rs.getD a [] = w at *
  intro q
  induction q with
  | zero =>
    intro j hj hjv hm
    have e : j = w.length := by omega
    subst e
    refine w325s12_34 xs (d + 3) _ _ _ _ _ m _ ⟨fun _ => ?_, fun z => absurd (Int32.le_refl _) z⟩
    refine w325s12_72 xs (d + 3) _ _ _ _ _ m _ ⟨fun z => absurd rfl z, fun _ => ?_⟩
    rw [nI_add]
    refine y_ci (c24_12 xs d m (k + w.length) (by omega)) (by omega) ?_
    rw [dr_get hd]
    by_cases hh : w.length < v.length
    · rw [wd_in hh]
      exact ⟨fun _ => K (fun z => by rw [z] at hh; omega), fun z => absurd z (no32 hv hh)⟩
    · have e : v.length = w.length := by omega
      have e2 : (v ++ 32 :: r).getD w.length 0 = 32 := by rw [← e]; exact wd_sp
      rw [e2]
      exact ⟨fun z => absurd rfl z, fun _ => K2 (li_ext e (fun x hx => hm x (by omega)))⟩
  | succ q ih =>
    intro j hj hjv hm
    have hjs : j < w.length := by omega
    have out : ¬ v = w → yP (xg xs) (d + 3 + 1) 325 72 [(0, .ref 58), (1, .retAddr 32), (2, .int (nI a)), (3, .int (nI w.length)), (4, .int (nI t)), (5, .int (nI k)), (6, .int (nI j))] [] m Q := fun z => w325s12_72 xs (d + 3) _ _ _ _ _ m _ ⟨fun _ => K z, fun y => absurd ((nI_eq (by omega) (by omega)).mp y) (by omega)⟩
    refine w325s12_34 xs (d + 3) _ _ _ _ _ m _ ⟨fun z => absurd z (nI_ge hjs (by omega)), fun _ => ?_⟩
    rw [nI_add]
    refine y_ci (c24_12 xs d m (k + j) (by omega)) (by omega) ⟨x_in_nI (by omega) (by decide), ?_⟩
    rw [nI_clamp (by omega), hR.2.1 a (by omega), nI_add, nI_clamp (by omega), lt j hjs, dr_get hd]
    refine ⟨x_in_nI (by omega) (by decide), fun z => out (fun y => ?_), fun z => ?_⟩
    · by_cases hh : j < v.length
      · rw [wd_in hh, y] at z
        exact z rfl
      · rw [y] at hh; omega
    · by_cases hh : j < v.length
      · rw [wd_in hh] at z
        rw [nI_1]
        refine ih (j + 1) (by omega) (by omega) (fun e he => ?_)
        rcases Nat.lt_or_ge e j with x | x
        · exact hm e x
        · rw [show e = j by omega]
          exact z
      · have e : v.length = j := by omega
        have e2 : (v ++ 32 :: r).getD j 0 = 32 := by rw [← e]; exact wd_sp
        rw [e2] at z
        exact absurd z.symm (no32 h32 hjs)
theorem c325_12 (xs : List Int32) (d : Nat) {m : yM} {Rs : List (List Int32)} (hR : NR m Rs) (ho : offs Rs Rs.length ≤ 8192) (hl8 : Rs.length ≤ 8192) {a : Nat} (ha : a < Rs.length) (h32 : (32 : Int32) ∉ Rs.getD a []) : yC (xg xs) (d + 4) 325 [.ref 58, .retAddr 32, .int (nI a)] m (fun r m' => r = some (.int (ixw (Rs.getD a []) ws12 0)) ∧ m' = m) := by
  have x3 := xl_12
  have of := offs_end ha ho
  have e1 : nI (offs Rs (a + 1)) - nI (offs Rs a) = nI (Rs.getD a []).length := by
    rw [offs_s Rs ha, nI_sub (by omega), Nat.add_sub_cancel_left]
  have lp : ∀ (ws : List (List Int32)) (t k : Nat), xsb_12.drop k = flw ws → (∀ v ∈ ws, (32 : Int32) ∉ v) → t + ws.length ≤ 100 → k ≤ xsb_12.length → yP (xg xs) (d + 4) 325 22 [(0, .ref 58), (1, .retAddr 32), (2, .int (nI a)), (3, .int (nI (Rs.getD a []).length)), (4, .int (nI t)), (5, .int (nI k))] [] m (fun r m' => r = some (.int (ixw (Rs.getD a []) ws t)) ∧ m' = m) := by
    intro ws
    induction ws with
    | nil =>
      intro t k hd _ _ hk
      have hl := dr_len hd
      have e : (flw ([] : List (List Int32))).length = 0 := rfl
      refine w325s12_22 xs (d + 3) _ _ _ _ m _ ?_
      refine y_ci (c22_12 xs d m) (by omega) ?_
      exact ⟨fun _ => ⟨rfl, rfl⟩, fun z => absurd (nI_le (a := xsb_12.length) (b := k) (by omega) (by omega)) (by rw [x3]; exact z)⟩
    | cons v ws ih =>
      intro t k hd hn ht hk
      have hd2 : xsb_12.drop k = v ++ 32 :: flw ws := by rw [hd]; simp [flw]
      have hl := dr_len hd2
      simp only [List.length_append, List.length_cons] at hl
      have es : ixw (Rs.getD a []) (v :: ws) t = if v = Rs.getD a [] then nI t else ixw (Rs.getD a []) ws (t + 1) := rfl
      refine w325s12_22 xs (d + 3) _ _ _ _ m _ ?_
      refine y_ci (c22_12 xs d m) (by omega) ?_
      refine ⟨fun z => absurd z (by have y := nI_ge (a := k) (b := xsb_12.length) (by omega) (by omega); rw [x3] at y; exact y), fun _ => ?_⟩
      refine c325C_12 xs d hR ho hl8 ha h32 _ t k v (flw ws) hd2 (hn v (by simp)) (fun z => ?_) (fun z => ⟨by rw [es, if_pos z], rfl⟩) _ 0 (Nat.zero_add _) (Nat.zero_le _) (fun e he => absurd he (Nat.not_lt_zero _))
      refine c325S_12 xs d m _ (nI a) _ t k v (flw ws) hd2 (hn v (by simp)) ?_ v.length 0 (by omega)
      rw [es, if_neg z]
      refine ih (t + 1) (k + v.length + 1) ?_ (fun x hx => hn x (by simp [hx])) (by simp at ht; omega) (by omega)
      have e := congrArg (List.drop (v.length + 1)) hd2
      rw [List.drop_drop] at e
      rw [show k + v.length + 1 = k + (v.length + 1) by omega, e]
      simp
  refine w325s12_0 xs (d + 3) _ m _ ?_
  rw [nI_1, nI_clamp (by omega), nI_clamp (by omega), hR.2.1 a (by omega), hR.2.1 (a + 1) (by omega), e1]
  refine ⟨x_in_nI (by omega) (by decide), x_in_nI (by omega) (by decide), ?_⟩
  refine lp ws12 0 1 ?_ (by decide +kernel) (by decide +kernel) (by rw [x3]; decide)
  have e := congrArg (List.drop 1) WS12
  rw [List.drop_succ_cons, List.drop_zero] at e
  exact e

