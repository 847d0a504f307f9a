/-! THE WRITER: jumps that wait -/
abbrev mE (n : Nat) : Nat := 2 * n + 1
abbrev mX (n : Nat) : Nat := 2 * n + 2
def rs1 (μ : Nat) (v : Int32) (x : IT) : IT := if x.2.2.2.2.1 = μ then (x.1, v, x.2.2.1, x.2.2.2.1, 0, x.2.2.2.2.2) else x
def res (μ : Nat) (v : Int32) (C : List IT) : List IT := C.map (rs1 μ v)
theorem res_len (μ : Nat) (v : Int32) (C : List IT) : (res μ v C).length = C.length := List.length_map ..
theorem res_app (μ : Nat) (v : Int32) (C D : List IT) : res μ v (C ++ D) = res μ v C ++ res μ v D := List.map_append
theorem res_n {μ : Nat} {v : Int32} : ∀ {C : List IT}, (∀ x, x ∈ C → ¬ x.2.2.2.2.1 = μ) → res μ v C = C
  | [], _ => rfl
  | x :: C, h => by
    show rs1 μ v x :: res μ v C = _
    rw [res_n (fun y hy => h y (List.mem_cons_of_mem _ hy))]
    unfold rs1
    rw [if_neg (h x List.mem_cons_self)]
theorem prv_c (C : List IT) (μ : Nat) : ∀ i, (prv C μ i = -1 ∧ ∀ k, k < i → ¬ (C.getD k dIT).2.2.2.2.1 = μ) ∨ ∃ j, j < i ∧ prv C μ i = nI j ∧ (C.getD j dIT).2.2.2.2.1 = μ ∧ ∀ k, j < k → k < i → ¬ (C.getD k dIT).2.2.2.2.1 = μ
  | 0 => Or.inl ⟨rfl, fun k hk => by omega⟩
  | i + 1 => by
    unfold prv
    by_cases c : (C.getD i dIT).2.2.2.2.1 = μ
    · rw [if_pos c]
      exact Or.inr ⟨i, by omega, rfl, c, fun k k1 k2 => by omega⟩
    · rw [if_neg c]
      rcases prv_c C μ i with ⟨h1, h2⟩ | ⟨j, h1, h2, h3, h4⟩
      · refine Or.inl ⟨h1, fun k hk => ?_⟩
        by_cases e : k = i
        · rw [e]; exact c
        · exact h2 k (by omega)
      · refine Or.inr ⟨j, by omega, h2, h3, fun k k1 k2 => ?_⟩
        by_cases e : k = i
        · rw [e]; exact c
        · exact h4 k k1 (by omega)
theorem prv_n {C : List IT} {μ : Nat} (hμ : ¬ μ = 0) (h : ∀ x, x ∈ C → ¬ x.2.2.2.2.1 = μ) (i : Nat) : prv C μ i = -1 := by
  rcases prv_c C μ i with ⟨h1, -⟩ | ⟨j, h1, h2, h3, -⟩
  · exact h1
  · exfalso
    rcases Nat.lt_or_ge j C.length with y | y
    · exact h _ (List.mem_of_getElem? (getD_some (d := dIT) y)) h3
    · rw [List.getD_eq_getElem?_getD, List.getElem?_eq_none_iff.mpr y] at h3
      exact hμ h3.symm
theorem prv_x {C D : List IT} {μ : Nat} (h : ∀ x, x ∈ D → ¬ x.2.2.2.2.1 = μ) : prv (C ++ D) μ (C ++ D).length = prv C μ C.length := by
  have go : ∀ k, k ≤ D.length → prv (C ++ D) μ (C.length + k) = prv C μ C.length := by
    intro k
    induction k with
    | zero => intro _; exact prv_app C D μ _ (Nat.le_refl _)
    | succ k ih =>
      intro hk
      show (if ((C ++ D).getD (C.length + k) dIT).2.2.2.2.1 = μ then nI (C.length + k) else prv (C ++ D) μ (C.length + k)) = _
      have e : (C ++ D).getD (C.length + k) dIT = D.getD k dIT := by
        rw [List.getD_eq_getElem?_getD, List.getElem?_append_right (by omega), Nat.add_sub_cancel_left, ← List.getD_eq_getElem?_getD]
      rw [e, if_neg (h _ (List.mem_of_getElem? (getD_some (d := dIT) (show k < D.length by omega))))]
      exact ih (by omega)
  rw [List.length_append]
  exact go D.length (Nat.le_refl _)
theorem rs_get (μ : Nat) (v : Int32) (C : List IT) (i : Nat) (hμ : ¬ μ = 0) : (res μ v C).getD i dIT = rs1 μ v (C.getD i dIT) := by
  unfold res
  rw [List.getD_eq_getElem?_getD, List.getD_eq_getElem?_getD, List.getElem?_map]
  cases C[i]? with
  | none =>
    show dIT = rs1 μ v dIT
    unfold rs1
    rw [if_neg (fun z => hμ z.symm)]
  | some x => rfl
theorem prv_r {μ μ' : Nat} (v : Int32) (C : List IT) (hμ : ¬ μ = 0) (hμ' : ¬ μ' = 0) (ne : ¬ μ' = μ) : ∀ i, prv (res μ v C) μ' i = prv C μ' i
  | 0 => rfl
  | i + 1 => by
    unfold prv
    rw [prv_r v C hμ hμ' ne i, rs_get μ v C i hμ]
    unfold rs1
    by_cases c : (C.getD i dIT).2.2.2.2.1 = μ
    · rw [if_pos c]
      rw [if_neg (show ¬ (0 : Nat) = μ' from fun z => hμ' z.symm), if_neg (fun z => ne (z.symm.trans c))]
    · rw [if_neg c]
theorem c205 (xs : List Int32) (d : Nat) {C : List IT} {m : yM} (h : CO C m) {u : Nat} (hu : m.1 42 7 = nI u) (hl : u ≤ C.length) : yC (xg xs) (d + 1) 205 [.ref 42] m (fun r m' => r = some (.int (nI (C.length - u))) ∧ m' = m) := by
  refine w205_0 xs d m _ ⟨?_, rfl⟩
  rw [h.1, hu, nI_sub hl]
theorem c206 (xs : List Int32) (d : Nat) {C : List IT} {m : yM} (h : CO C m) {μ : Nat} (hμ : ¬ μ = 0) (v : Int32) : yC (xg xs) (d + 1) 206 [.ref 35, .int (prv C μ C.length), .int v] m (fun r m' => r = none ∧ CO (res μ v C) m' ∧ EK m m') := by
  obtain ⟨h1, h2, h3⟩ := h
  refine w206_0 xs d _ _ m _ ?_
  by_cases big : C.length ≤ 3000
  · have h3 := h3 big
    have lp : ∀ (i : Nat) (l4 : Nat) (m1 : yM), i ≤ C.length → l4 + i ≤ 3000 → EK m m1 → m1.1 35 6 = nI C.length → (∀ j x, C[j]? = some x → m1.1 36 j = x.1 ∧ m1.1 37 j = (if x.2.2.2.2.1 = μ ∧ i ≤ j then v else caV C j x) ∧ m1.1 38 j = x.2.2.1 ∧ m1.1 39 j = x.2.2.2.1) → yP (xg xs) (d + 1) 206 5 [(0, .ref 35), (2, .int v), (3, .int (prv C μ i)), (4, .int (nI l4))] [] m1 (fun r m' => r = none ∧ CO (res μ v C) m' ∧ EK m m') := by
      intro i
      induction i using Nat.strongRecOn with
      | _ i ih =>
        intro l4 m1 hi hl ek e6 hm
        have fin : (∀ k, k < i → ¬ (C.getD k dIT).2.2.2.2.1 = μ) → (none = (none : Option Value) ∧ CO (res μ v C) m1 ∧ EK m m1) := by
          intro no
          refine ⟨rfl, ⟨by rw [res_len]; exact e6, by rw [res_len]; exact h2, fun _ j y hy => ?_⟩, ek⟩
          unfold res at hy
          rw [List.getElem?_map] at hy
          cases hq : C[j]? with
          | none => rw [hq] at hy; cases hy
          | some x =>
            rw [hq] at hy
            have hy := Option.some.inj hy
            obtain ⟨g1, g2, g3, g4⟩ := hm j x hq
            have gx : C.getD j dIT = x := by rw [List.getD_eq_getElem?_getD, hq]; rfl
            unfold rs1 at hy
            by_cases c : x.2.2.2.2.1 = μ
            · rw [if_pos c] at hy
              rw [← hy]
              have ij : i ≤ j := by
                rcases Nat.lt_or_ge j i with y | y
                · exact absurd (by rw [gx]; exact c) (no j y)
                · exact y
              rw [if_pos ⟨c, ij⟩] at g2
              exact ⟨g1, by unfold caV; rw [if_pos rfl]; exact g2, g3, g4⟩
            · rw [if_neg c] at hy
              rw [← hy]
              rw [if_neg (fun z => c z.1)] at g2
              refine ⟨g1, ?_, g3, g4⟩
              rw [g2]
              unfold caV
              by_cases c0 : x.2.2.2.2.1 = 0
              · rw [if_pos c0, if_pos c0]
              · rw [if_neg c0, if_neg c0]
                exact (prv_r v C hμ c0 c j).symm
        rcases prv_c C μ i with ⟨p1, p2⟩ | ⟨j, p1, p2, p3, p4⟩
        · rw [p1]
          exact w206_5 xs d _ _ _ m1 _ ⟨fun _ => fin p2, fun _ => ⟨fun _ => fin p2, fun z => absurd (by decide) z⟩⟩
        · rw [p2]
          have jl : j < C.length := by omega
          have hq : C[j]? = some (C.getD j dIT) := getD_some jl
          obtain ⟨g1, g2, g3, g4⟩ := hm j _ hq
          rw [if_neg (fun z => by omega)] at g2
          have ev : caV C j (C.getD j dIT) = prv C μ j := by
            unfold caV
            rw [p3, if_neg hμ]
          refine w206_5 xs d _ _ _ m1 _ ⟨fun z => ?_, fun _ => ⟨fun z => ?_, fun _ => ⟨fun z => ?_, fun _ => ⟨x_in_nI (by omega) (by decide), x_in_nI (by omega) (by decide), ?_⟩⟩⟩⟩
          · have := (nI_leI (a := 3000) (by omega) (by omega)).mp z
            omega
          · have := (nI_ltI (b := 0) (by omega) (by omega)).mp z
            omega
          · have := (nI_leI (a := 3000) (by omega) (by omega)).mp z
            omega
          · rw [nI_clamp (by omega), g2, ev, nI_1]
            refine ih j p1 (l4 + 1) _ (by omega) (by omega) (ek.tr ⟨fun a k z => by rw [y_si_at, if_neg (by omega)], fun k z => by rw [y_si_at, if_neg (by omega)], rfl⟩) (by rw [y_si_at, if_neg (by omega)]; exact e6) (fun k x hk => ?_)
            obtain ⟨q1, q2, q3, q4⟩ := hm k x hk
            have gx : C.getD k dIT = x := by rw [List.getD_eq_getElem?_getD, hk]; rfl
            have o36 : (y_si m1 37 j v).1 36 k = m1.1 36 k := by rw [y_si_at, if_neg (by omega)]
            have o38 : (y_si m1 37 j v).1 38 k = m1.1 38 k := by rw [y_si_at, if_neg (by omega)]
            have o39 : (y_si m1 37 j v).1 39 k = m1.1 39 k := by rw [y_si_at, if_neg (by omega)]
            rw [o36, o38, o39]
            refine ⟨q1, ?_, q3, q4⟩
            by_cases e : k = j
            · have o37 : (y_si m1 37 j v).1 37 k = v := by rw [e, y_si_same]
              have c : x.2.2.2.2.1 = μ ∧ j ≤ k := ⟨by rw [← gx, e]; exact p3, by omega⟩
              rw [o37, if_pos c]
            · have o37 : (y_si m1 37 j v).1 37 k = m1.1 37 k := by rw [y_si_at, if_neg (by omega)]
              rw [o37, q2]
              by_cases c : x.2.2.2.2.1 = μ
              · by_cases ik : i ≤ k
                · rw [if_pos (And.intro c ik), if_pos (And.intro c (show j ≤ k by omega))]
                · have n1 : ¬ (x.2.2.2.2.1 = μ ∧ i ≤ k) := fun z => ik z.2
                  have n2 : ¬ (x.2.2.2.2.1 = μ ∧ j ≤ k) := fun z => p4 k (by omega) (by omega) (by rw [gx]; exact c)
                  rw [if_neg n1, if_neg n2]
              · have n1 : ¬ (x.2.2.2.2.1 = μ ∧ i ≤ k) := fun z => c z.1
                have n2 : ¬ (x.2.2.2.2.1 = μ ∧ j ≤ k) := fun z => c z.1
                rw [if_neg n1, if_neg n2]
    refine lp C.length 0 m (Nat.le_refl _) (by omega) (EK.re m) h1 (fun j x hx => ?_)
    obtain ⟨g1, g2, g3, g4⟩ := h3 j x hx
    have := (List.getElem?_eq_some_iff.mp hx).1
    rw [if_neg (fun z => by omega)]
    exact ⟨g1, g2, g3, g4⟩
  · -- too long: it only must end
    have lp : ∀ (q : Nat) (l3 : Int32) (m1 : yM), q ≤ 3000 → EK m m1 → m1.1 35 6 = nI C.length → yP (xg xs) (d + 1) 206 5 [(0, .ref 35), (2, .int v), (3, .int l3), (4, .int (nI (3000 - q)))] [] m1 (fun r m' => r = none ∧ CO (res μ v C) m' ∧ EK m m') := by
      intro q
      induction q with
      | zero =>
        intro l3 m1 _ ek e6
        have fin : (none = (none : Option Value) ∧ CO (res μ v C) m1 ∧ EK m m1) := ⟨rfl, ⟨by rw [res_len]; exact e6, by rw [res_len]; exact h2, fun z => by rw [res_len] at z; omega⟩, ek⟩
        exact w206_5 xs d _ _ _ m1 _ ⟨fun _ => fin, fun z => absurd (show (3000 : Int32) ≤ nI (3000 - 0) by decide) z⟩
      | succ q ih =>
        intro l3 m1 hq ek e6
        have fin : (none = (none : Option Value) ∧ CO (res μ v C) m1 ∧ EK m m1) := ⟨rfl, ⟨by rw [res_len]; exact e6, by rw [res_len]; exact h2, fun z => by rw [res_len] at z; omega⟩, ek⟩
        refine w206_5 xs d _ _ _ m1 _ ⟨fun _ => fin, fun _ => ⟨fun _ => fin, fun z1 => ⟨fun _ => fin, fun z2 => ?_⟩⟩⟩
        have xi : x_in l3 3000 = true := by
          have a : ¬ l3.toInt < 0 := fun y => z1 (Int32.lt_iff_toInt_lt.mpr y)
          have b : ¬ 3000 ≤ l3.toInt := fun y => z2 (Int32.le_iff_toInt_le.mpr y)
          have e : l3 = nI l3.toInt.toNat := by
            apply Int32.toInt_inj.mp
            rw [nI_toInt (by omega)]
            omega
          rw [e]
          exact x_in_nI (by omega) (by decide)
        refine ⟨xi, xi, ?_⟩
        rw [nI_1, show 3000 - (q + 1) + 1 = 3000 - q by omega]
        exact ih _ _ (by omega) (ek.tr ⟨fun a k z => by rw [y_si_at, if_neg (by omega)], fun k z => by rw [y_si_at, if_neg (by omega)], rfl⟩) (by rw [y_si_at, if_neg (by omega)]; exact e6)
    have := lp 3000 (prv C μ C.length) m (Nat.le_refl _) (EK.re m) h1
    exact this
