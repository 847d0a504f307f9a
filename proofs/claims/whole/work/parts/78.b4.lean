/-! THE REFERENCE'S WRITER: rungs, where cells and links are -/
theorem c379 (xs : List Int32) (d : Nat) {J : JV} {m : yM} (hT : JT J m) {r : Nat} (hr : r < J.2.2.1.length) {c : Nat} (hc : c < (cel J.2.2.1 r).length) (c12 : c < 12) : yC (xg xs) (d + 1) 379 [.ref 58, .int (nI (J.2.2.2 r)), .int (nI c)] m (fun v m' => v = some (.int (nI (J.2.2.2 ((cel J.2.2.1 r).getD c 0)))) ∧ m' = m) := by
  have lp : ∀ (K : List Nat) (j c : Nat), (kids J.2.2.1 r).drop j = K → c < (celK J.2.2.1 K).length → c < 12 → yP (xg xs) (d + 1) 379 10 [(0, .ref 58), (3, .int (nI c)), (4, .int (lkI J.2.2.2 (kids J.2.2.1 r)[j]?))] [] m (fun v m' => v = some (.int (nI (J.2.2.2 ((celK J.2.2.1 K).getD c 0)))) ∧ m' = m) := by
    intro K
    induction K with
    | nil => intro j c _ hc _; exact absurd hc (Nat.not_lt_zero _)
    | cons x K ih =>
      intro j c ed hc h12
      obtain ⟨d1, d2, d3⟩ := drop_s ed
      have xl := ((hT.2.1 r hr).2.2.2.2.2.2.2.2 j x d1)
      have ls : lkI J.2.2.2 (some x) = nI (J.2.2.2 x) := rfl
      have k31 : kK J.2.2.1 x < 2 ^ 31 := by unfold kK; exact Int32.toNatClampNeg_lt _
      have i29 : m.1 62 (J.2.2.2 x) = 29 ↔ kK J.2.2.1 x = 29 := by rw [(hT.2.1 x xl.1).2.1]; exact nI_eq (b := 29) k31 (by omega)
      rw [d1, ls]
      have cx := hT.c xl.1
      have xx := hT.x xl.1
      have nxt : ∀ c', (∀ v : List Nat, v = celK J.2.2.1 K → c' < v.length) → c' < 12 → yP (xg xs) (d + 1) 379 10 [(0, .ref 58), (3, .int (nI c')), (4, .int (m.1 68 (nI (J.2.2.2 x)).toNatClampNeg))] [] m (fun v m' => v = some (.int (nI (J.2.2.2 ((celK J.2.2.1 K).getD c' 0)))) ∧ m' = m) := by
        intro c' h1 h2
        rw [cx, xl.2.2]
        exact ih (j + 1) c' d2 (h1 _ rfl) h2
      by_cases k29 : kK J.2.2.1 x = 29
      · have ec : celK J.2.2.1 (x :: K) = celK J.2.2.1 K := by unfold celK; rw [List.filter_cons_of_neg (by simpa using k29)]
        rw [ec] at hc ⊢
        have s26 : yP (xg xs) (d + 1) 379 26 [(0, .ref 58), (3, .int (nI c)), (4, .int (nI (J.2.2.2 x)))] [] m (fun v m' => v = some (.int (nI (J.2.2.2 ((celK J.2.2.1 K).getD c 0)))) ∧ m' = m) := by
          refine w379_26 xs d _ _ m _ ⟨xx, ?_⟩
          rw [cx]
          refine ⟨fun z => absurd (i29.mpr k29) z, fun _ => w379_44 xs d _ _ _ m _ ⟨xx, ?_⟩⟩
          rw [Int32.sub_zero]
          exact nxt c (fun v hv => by rw [hv]; exact hc) h12
        refine w379_10 xs d _ _ m _ ⟨fun _ => s26, fun _ => ⟨xx, ?_⟩⟩
        rw [cx]
        exact ⟨fun z => absurd (i29.mpr k29) z, fun _ => s26⟩
      · have ec : celK J.2.2.1 (x :: K) = x :: celK J.2.2.1 K := by unfold celK; rw [List.filter_cons_of_pos (by simpa using k29)]
        rw [ec] at hc ⊢
        cases c with
        | zero =>
          refine w379_10 xs d _ _ m _ ⟨fun z => absurd z (by decide), fun _ => ⟨xx, ?_⟩⟩
          rw [cx]
          exact ⟨fun _ => ⟨rfl, rfl⟩, fun z => absurd (i29.mp z) k29⟩
        | succ c =>
          rw [List.length_cons] at hc
          refine w379_10 xs d _ _ m _ ⟨fun _ => w379_26 xs d _ _ m _ ⟨xx, ?_⟩, fun z => absurd (nI_lt (a := 0) (by omega) (by omega)) z⟩
          rw [cx]
          refine ⟨fun _ => w379_44 xs d _ _ _ m _ ⟨xx, ?_⟩, fun z => absurd (i29.mp z) k29⟩
          have e1 : nI (c + 1) - 1 = nI c := by rw [nI_m (by omega)]; rfl
          rw [e1]
          exact nxt c (fun v hv => by rw [hv]; omega) (by omega)
  refine w379_0 xs d _ _ m _ ⟨hT.x hr, ?_⟩
  rw [hT.c hr, (hT.2.1 r hr).2.2.2.2.2.1]
  exact lp (kids J.2.2.1 r) 0 c rfl hc c12
theorem c381 (xs : List Int32) (d : Nat) {J : JV} {m : yM} (hT : JT J m) {r : Nat} (hr : r < J.2.2.1.length) (kl : (kids J.2.2.1 r).length ≤ 16400) {l : Nat} (hl : l ≤ 12) : yC (xg xs) (d + 1) 381 [.ref 58, .int (nI (J.2.2.2 r)), .int (nI l)] m (fun v m' => v = some (.int (if ln J.2.2.1 r l = true then 1 else 0)) ∧ m' = m) := by
  have lp : ∀ (K : List Nat) (j c : Nat) (a : Bool), (kids J.2.2.1 r).drop j = K → c ≤ j → yP (xg xs) (d + 1) 381 13 [(0, .ref 58), (2, .int (nI l)), (3, .int (nI c)), (4, .int (if a = true then 1 else 0)), (5, .int (lkI J.2.2.2 (kids J.2.2.1 r)[j]?))] [] m (fun v m' => v = some (.int (if (a || lnS J.2.2.1 K c l) = true then 1 else 0)) ∧ m' = m) := by
    intro K
    induction K with
    | nil =>
      intro j c a ed hc
      have : (kids J.2.2.1 r)[j]? = none := by
        have := congrArg List.length ed
        rw [List.length_drop, List.length_nil] at this
        exact List.getElem?_eq_none_iff.mpr (by omega)
      rw [this]
      have l0 : lnS J.2.2.1 [] c l = false := rfl
      rw [l0, Bool.or_false]
      refine w381_13 xs d _ _ _ _ m _ ⟨fun _ => ⟨?_, rfl, rfl⟩, fun z => absurd rfl z⟩
      cases a with
      | false => exact Or.inl rfl
      | true => exact Or.inr rfl
    | cons x K ih =>
      intro j c a ed hc
      obtain ⟨d1, d2, d3⟩ := drop_s ed
      have xl := ((hT.2.1 r hr).2.2.2.2.2.2.2.2 j x d1)
      have ls : lkI J.2.2.2 (some x) = nI (J.2.2.2 x) := rfl
      have k31 : kK J.2.2.1 x < 2 ^ 31 := by unfold kK; exact Int32.toNatClampNeg_lt _
      have i29 : m.1 62 (J.2.2.2 x) = 29 ↔ kK J.2.2.1 x = 29 := by rw [(hT.2.1 x xl.1).2.1]; exact nI_eq (b := 29) k31 (by omega)
      have il : nI c = nI l ↔ c = l := nI_eq (by omega) (by omega)
      rw [d1, ls]
      have cx := hT.c xl.1
      have xx := hT.x xl.1
      -- the next one
      have nxt : ∀ (a' : Bool) (s0 : Int32), (s0 = if a' = true then 1 else 0) → (a' = (a || (decide (kK J.2.2.1 x = 29) && decide (c = l)))) → yP (xg xs) (d + 1) 381 46 [(0, .ref 58), (2, .int (nI l)), (3, .int (nI c)), (5, .int (nI (J.2.2.2 x)))] [.int s0] m (fun v m' => v = some (.int (if (a || lnS J.2.2.1 (x :: K) c l) = true then 1 else 0)) ∧ m' = m) := by
        intro a' s0 hs ha
        have e1 : ∀ c', (c' = if kK J.2.2.1 x = 29 then c else c + 1) → (a || lnS J.2.2.1 (x :: K) c l) = (a' || lnS J.2.2.1 K c' l) := by
          intro c' hc'
          conv => lhs; unfold lnS
          by_cases k29 : kK J.2.2.1 x = 29
          · rw [if_pos k29] at hc'
            rw [if_pos k29, ha, decide_eq_true k29, Bool.true_and, hc', Bool.or_assoc]
          · rw [if_neg k29] at hc'
            rw [if_neg k29, ha, decide_eq_false k29, Bool.false_and, Bool.or_false, hc']
        refine w381_46 xs d _ _ _ _ m _ ⟨xx, ?_⟩
        rw [cx]
        refine ⟨fun z => w381_66 xs d _ _ _ _ _ m _ ⟨xx, ?_⟩, fun z => w381_66 xs d _ _ _ _ _ m _ ⟨xx, ?_⟩⟩
        · rw [cx, xl.2.2, nI_1, hs, e1 (c + 1) (by rw [if_neg (fun w => z (i29.mpr w))])]
          exact ih (j + 1) (c + 1) a' d2 (by omega)
        · rw [cx, xl.2.2, Int32.add_zero, hs, e1 c (by rw [if_pos (i29.mp z)])]
          exact ih (j + 1) c a' d2 (by omega)
      refine w381_13 xs d _ _ _ _ m _ ⟨fun z => absurd z (nI_ne1 (hT.i xl.1)), fun _ => ⟨fun z => w381_41 xs d _ _ _ m _ (nxt true 1 rfl ?_), fun z => ⟨xx, ?_⟩⟩⟩
      · cases a with
        | false => exact absurd rfl z
        | true => rw [Bool.true_or]
      · have af : a = false := by
          cases a with
          | false => rfl
          | true => exact absurd z (by decide)
        rw [cx, af]
        rw [af] at nxt
        refine ⟨fun w => w381_45 xs d _ _ _ m _ (nxt false 0 rfl ?_), fun w => ⟨fun y => w381_45 xs d _ _ _ m _ (nxt false 0 rfl ?_), fun y => w381_41 xs d _ _ _ m _ (nxt true 1 rfl ?_)⟩⟩
        · rw [decide_eq_false (fun v => w (i29.mpr v)), Bool.false_and, Bool.or_false]
        · rw [decide_eq_false (fun v => y (il.mpr v)), Bool.and_false, Bool.or_false]
        · rw [decide_eq_true (i29.mp w), decide_eq_true (il.mp y)]; rfl
  refine w381_0 xs d _ _ m _ ⟨hT.x hr, ?_⟩
  rw [hT.c hr, (hT.2.1 r hr).2.2.2.2.2.1]
  have := lp (kids J.2.2.1 r) 0 0 false rfl (Nat.le_refl _)
  rw [Bool.false_or] at this
  exact this
theorem c380 (xs : List Int32) (d : Nat) {J : JV} {m : yM} (hT : JT J m) {n : Nat} (hn : n < J.2.2.1.length) (hk : ∀ r, r ∈ kids J.2.2.1 n → r < J.2.2.1.length ∧ (kids J.2.2.1 r).length ≤ 16400) {l : Nat} (hl : l ≤ 12) : ∀ row, row < (kids J.2.2.1 n).length → row < 12 → yC (xg xs) (d + 2) 380 [.ref 58, .int (nI (J.2.2.2 n)), .int (nI row), .int (nI l)] m (fun v m' => v = some (.int (nI (lsR J.2.2.1 (kids J.2.2.1 n) l row))) ∧ m' = m) := by
  have lp : ∀ row, row < (kids J.2.2.1 n).length → row < 12 → yP (xg xs) (d + 2) 380 3 [(0, .ref 58), (1, .int (nI (J.2.2.2 n))), (3, .int (nI l)), (4, .int (nI row))] [] m (fun v m' => v = some (.int (nI (lsR J.2.2.1 (kids J.2.2.1 n) l row))) ∧ m' = m) := by
    intro row
    induction row with
    | zero => intro _ _; exact w380_3 xs (d + 1) _ _ _ m _ ⟨fun _ => ⟨rfl, rfl⟩, fun z => absurd (by decide) z⟩
    | succ k ih =>
      intro h1 h2
      have e1 : nI (k + 1) - 1 = nI k := by rw [nI_m (by omega)]; rfl
      have e2 : nI (k + 1) + -1 = nI k := by rw [← e1, Int32.sub_eq_add_neg]
      have gk : (kids J.2.2.1 n)[k]? = some ((kids J.2.2.1 n).getD k 0) := getD_some (by omega)
      obtain ⟨rl, kl⟩ := hk _ (List.mem_of_getElem? gk)
      have es : lsR J.2.2.1 (kids J.2.2.1 n) l (k + 1) = if ln J.2.2.1 ((kids J.2.2.1 n).getD k 0) l = true then lsR J.2.2.1 (kids J.2.2.1 n) l k else k + 1 := rfl
      refine w380_3 xs (d + 1) _ _ _ m _ ⟨fun z => ?_, fun _ => ?_⟩
      · have := (nI_leI (b := 0) (by omega) (by omega)).mp z
        omega
      · rw [e1, e2, es]
        refine y_ci (c350 xs d hT hn (by omega) gk) (by omega) (y_ci (c381 xs d hT rl kl hl) (by omega) ⟨fun z => ?_, fun z => ?_⟩)
        · by_cases c : ln J.2.2.1 ((kids J.2.2.1 n).getD k 0) l = true
          · rw [if_pos c] at z; exact absurd z (by decide)
          · rw [if_neg c]; exact ⟨rfl, rfl⟩
        · by_cases c : ln J.2.2.1 ((kids J.2.2.1 n).getD k 0) l = true
          · rw [if_pos c]; exact ih (by omega) (by omega)
          · rw [if_neg c] at z; exact absurd rfl z
  intro row h1 h2
  exact w380_0 xs (d + 1) _ _ _ m _ (lp row h1 h2)
