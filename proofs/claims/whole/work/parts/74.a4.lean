/-! THE RULES' INVARIANTS: which kinds stand below which -/
def exL : List Nat := [6, 30, 31, 32, 33, 34, 35, 36]
def kidK (k : Nat) : List Nat := match k with
  | 0 => [1, 2, 3]
  | 1 => [8, 4, 11, 22]
  | 2 => [4, 11, 22]
  | 3 => [4, 11, 22]
  | 4 => [5]
  | 5 => [6, 7, 8, 9, 10, 30, 31]
  | 9 => [30, 31, 8]
  | 11 => [12, 13, 15, 16, 19, 20, 21]
  | 12 => exL
  | 13 => [14]
  | 14 => exL
  | 15 => 11 :: exL
  | 16 => 17 :: 11 :: exL
  | 17 => [18, 11]
  | 18 => [30, 31]
  | 19 => [30, 31, 11]
  | 22 => [23]
  | 23 => [24]
  | 24 => [25, 26, 27, 28, 29]
  | 25 => [6, 33]
  | 28 => [6]
  | 32 => exL
  | 33 => [6]
  | 34 => exL
  | 35 => exL
  | 36 => exL
  | _ => []
theorem exL_m {x : Nat} (h : exK x) : x ∈ exL := by
  rcases h with rfl | rfl | rfl | rfl | rfl | rfl | rfl | rfl <;> decide
theorem cnL_m {x : Nat} (h : cnK x) : x = 30 ∨ x = 31 := h
theorem elsK_m {s : List Nat} (h : elsK s) {x : Nat} (hx : x ∈ s) : x = 11 := by
  rcases h with rfl | rfl
  · cases hx
  · exact List.mem_singleton.mp hx
theorem iniK_m {s : List Nat} (h : iniK s) {x : Nat} (hx : x ∈ s) : x = 30 ∨ x = 31 := by
  rcases h with rfl | ⟨y, hy, rfl⟩
  · cases hx
  · rw [List.mem_singleton.mp hx]; exact hy
theorem okN.kid {m0 : yM} {T : Nat} {v : Int32} {vt : Nat} {ks : List Nat} : ∀ {k : Nat}, okN m0 T k v vt ks → ∀ x, x ∈ ks → x ∈ kidK k
  | 0, h, x, hx => by rcases h.2 x hx with rfl | rfl | rfl <;> decide
  | 1, h, x, hx => by
    obtain ⟨-, s, b, rfl, hs, hb⟩ := h
    rcases List.mem_cons.mp hx with rfl | hx
    · decide
    · rcases List.mem_append.mp hx with hx | hx
      · rw [hs x hx]; decide
      · rw [List.mem_singleton.mp hx]; rcases hb with rfl | rfl <;> decide
  | 2, h, x, hx => by
    obtain ⟨-, s, b, rfl, hs, hb⟩ := h
    rcases List.mem_append.mp hx with hx | hx
    · rw [hs x hx]; decide
    · rw [List.mem_singleton.mp hx]; rcases hb with rfl | rfl <;> decide
  | 3, h, x, hx => by
    obtain ⟨-, s, b, rfl, hs, hb⟩ := h
    rcases List.mem_append.mp hx with hx | hx
    · rw [hs x hx]; decide
    · rw [List.mem_singleton.mp hx]; rcases hb with rfl | rfl <;> decide
  | 4, h, x, hx => by rw [h.2.2 x hx]; decide
  | 5, h, x, hx => by
    obtain ⟨-, n, pl, ty, ini, rfl, hn, hpl, hty, hini⟩ := h
    rcases List.mem_cons.mp hx with rfl | hx
    · decide
    · rcases List.mem_append.mp hx with hx | hx
      · rw [hn x hx]; decide
      · rcases List.mem_append.mp hx with hx | hx
        · rcases hpl with rfl | rfl
          · cases hx
          · rw [List.mem_singleton.mp hx]; decide
        · rcases List.mem_cons.mp hx with rfl | hx
          · rcases hty with rfl | rfl | rfl <;> decide
          · rcases iniK_m hini hx with rfl | rfl <;> decide
  | 6, h, x, hx => by rw [h.2] at hx; cases hx
  | 7, h, x, hx => by rw [h.2.1] at hx; cases hx
  | 8, h, x, hx => by rw [h.2.1] at hx; cases hx
  | 9, h, x, hx => by
    obtain ⟨-, a, b, ha, hb, rfl⟩ := h
    rcases List.mem_cons.mp hx with rfl | hx
    · rcases ha with rfl | rfl <;> decide
    · rcases List.mem_cons.mp hx with rfl | hx
      · rcases hb with rfl | rfl <;> decide
      · rw [List.mem_singleton.mp hx]; decide
  | 10, h, x, hx => by rw [h.2] at hx; cases hx
  | 11, h, x, hx => by rcases h.2 x hx with rfl | rfl | rfl | rfl | rfl | rfl | rfl <;> decide
  | 12, h, x, hx => by
    obtain ⟨-, a, b, ha, hb, rfl⟩ := h
    rcases List.mem_cons.mp hx with rfl | hx
    · rcases ha with rfl | rfl <;> decide
    · rw [List.mem_singleton.mp hx]; exact exL_m hb
  | 13, h, x, hx => by rw [h.2 x hx]; decide
  | 14, h, x, hx => by
    obtain ⟨-, a, ha, rfl⟩ := h
    rw [List.mem_singleton.mp hx]; exact exL_m ha
  | 15, h, x, hx => by
    obtain ⟨-, es, s, hes, -, hs, rfl⟩ := h
    rcases List.mem_append.mp hx with hx | hx
    · obtain ⟨e, he, hx⟩ := List.mem_flatMap.mp hx
      rcases List.mem_cons.mp hx with rfl | hx
      · exact List.mem_cons_of_mem _ (exL_m (hes x he))
      · rw [List.mem_singleton.mp hx]; exact List.mem_cons_self
    · rw [elsK_m hs hx]; exact List.mem_cons_self
  | 16, h, x, hx => by
    obtain ⟨-, e, c, s, he, hc, hs, rfl⟩ := h
    rcases List.mem_cons.mp hx with rfl | hx
    · exact List.mem_cons_of_mem _ (List.mem_cons_of_mem _ (exL_m he))
    · rcases List.mem_append.mp hx with hx | hx
      · rw [hc x hx]; decide
      · rw [elsK_m hs hx]; decide
  | 17, h, x, hx => by
    obtain ⟨-, r, hr, -, rfl, -⟩ := h
    rcases List.mem_append.mp hx with hx | hx
    · rw [hr x hx]; decide
    · rw [List.mem_singleton.mp hx]; decide
  | 18, h, x, hx => by
    obtain ⟨-, a, s, ha, hs, rfl⟩ := h
    rcases List.mem_cons.mp hx with rfl | hx
    · rcases ha with rfl | rfl <;> decide
    · rcases iniK_m hs hx with rfl | rfl <;> decide
  | 19, h, x, hx => by
    obtain ⟨-, a, b, s, ha, hb, hs, rfl⟩ := h
    rcases List.mem_cons.mp hx with rfl | hx
    · rcases ha with rfl | rfl <;> decide
    · rcases List.mem_cons.mp hx with rfl | hx
      · rcases hb with rfl | rfl <;> decide
      · rcases List.mem_append.mp hx with hx | hx
        · rcases iniK_m hs hx with rfl | rfl <;> decide
        · rw [List.mem_singleton.mp hx]; decide
  | 20, h, x, hx => by rw [h.2] at hx; cases hx
  | 21, h, x, hx => by rw [h.2] at hx; cases hx
  | 22, h, x, hx => by rw [h.2 x hx]; decide
  | 23, h, x, hx => by rw [h.2.2 x hx]; decide
  | 24, h, x, hx => by
    obtain ⟨-, c, r, hc, hr, rfl⟩ := h
    rcases List.mem_cons.mp hx with rfl | hx
    · rcases hc with rfl | rfl | rfl | rfl <;> decide
    · rcases hr x hx with (rfl | rfl | rfl | rfl) | rfl <;> decide
  | 25, h, x, hx => by
    rcases h.2.2 with rfl | rfl
    · rw [List.mem_singleton.mp hx]; decide
    · rw [List.mem_singleton.mp hx]; decide
  | 26, h, x, hx => by rw [h.2] at hx; cases hx
  | 27, h, x, hx => by rw [h.2] at hx; cases hx
  | 28, h, x, hx => by rw [h.2.2] at hx; rw [List.mem_singleton.mp hx]; decide
  | 29, h, x, hx => by rw [h.2] at hx; cases hx
  | 30, h, x, hx => by rw [h.2] at hx; cases hx
  | 31, h, x, hx => by rw [h.2.1] at hx; cases hx
  | 32, h, x, hx => by
    obtain ⟨-, a, ha, rfl⟩ := h
    rw [List.mem_singleton.mp hx]; exact exL_m ha
  | 33, h, x, hx => by rw [h.2] at hx; rw [List.mem_singleton.mp hx]; decide
  | 34, h, x, hx => exL_m (h.2 x hx)
  | 35, h, x, hx => by
    obtain ⟨-, -, a, b, ha, hb, rfl⟩ := h
    rcases List.mem_cons.mp hx with rfl | hx
    · exact exL_m ha
    · rw [List.mem_singleton.mp hx]; exact exL_m hb
  | 36, h, x, hx => by
    obtain ⟨-, -, a, ha, rfl⟩ := h
    rw [List.mem_singleton.mp hx]; exact exL_m ha
  | n + 37, h, x, hx => absurd h (fun z => z)
theorem TW.kid {m0 : yM} {T : Nat} {F : List ND} {N n c : Nat} (h : TW m0 T F N n) (hc : c ∈ kids F n) : kK F c ∈ kidK (kK F n) := by
  cases N with
  | zero => exact absurd h (fun z => z)
  | succ N => exact h.2.2.2.2.1.kid _ (List.mem_map_of_mem hc)
theorem TW.k37 {m0 : yM} {T : Nat} {F : List ND} {N n : Nat} (h : TW m0 T F N n) : kK F n < 37 := by
  cases N with
  | zero => exact absurd h (fun z => z)
  | succ N => exact h.2.2.2.1
theorem chR_in {m0 : yM} {T : Nat} {F : List ND} : ∀ (L : List Nat) (p : Nat), chR F L p → (∀ q, q ∈ L → ∃ M, TW m0 T F M q) → ∀ q, q ∈ L → q < p ∧ p + szF F p ≤ q + szF F q
  | [], p, _, _, q, hq => by cases hq
  | a :: L, p, h, hw, q, hq => by
    obtain ⟨h1, ⟨j, hj⟩, h3⟩ := h
    obtain ⟨M, hM⟩ := hw a List.mem_cons_self
    have ta : a + 1 ≤ p ∧ p + szF F p ≤ a + szF F a := by
      cases M with
      | zero => exact absurd hM (fun z => z)
      | succ M => exact tile.mem hM.2.2.2.2.2.1 p (List.mem_of_getElem? hj)
    rcases List.mem_cons.mp hq with rfl | hq
    · omega
    · have := chR_in L a h3 (fun x hx => hw x (List.mem_cons_of_mem _ hx)) q hq
      omega
/-- the node above -/
theorem PA.up {m0 : yM} {T : Nat} {F : List ND} {N : Nat} {A : List Nat} {n : Nat} (h : PA m0 T F N A n) : (A = [] ∧ n = 0) ∨ ∃ B p M, A = B ++ [p] ∧ fPar A = p ∧ n ∈ kids F p ∧ kK F n ∈ kidK (kK F p) ∧ PA m0 T F M B p := by
  obtain ⟨hw, hc, hA⟩ := h
  rcases List.eq_nil_or_concat A with rfl | ⟨B, p, rfl⟩
  · exact Or.inl ⟨rfl, hc⟩
  · rw [List.concat_eq_append] at hc hA
    obtain ⟨p1, ⟨j, pj⟩, p3⟩ := hc.par
    have pm := List.mem_of_getElem? pj
    obtain ⟨a1, a2, M, hM⟩ := hA p (List.mem_append_right _ List.mem_cons_self)
    refine Or.inr ⟨B, p, M, List.concat_eq_append, ?_, pm, hM.kid pm, hM, p3, fun q hq => ?_⟩
    · rw [List.concat_eq_append]; unfold fPar; simp
    · obtain ⟨b1, b2, b3⟩ := hA q (List.mem_append_left _ hq)
      have := chR_in (m0 := m0) (T := T) B.reverse p p3 (fun x hx => (hA x (List.mem_append_left _ (List.mem_reverse.mp hx))).2.2) q (List.mem_reverse.mpr hq)
      exact ⟨this.1, this.2, b3⟩
/-- a block stands below the text -/
theorem kidK0 : ∀ k, k < 37 → (0 ∉ kidK k) ∧ ((1 ∈ kidK k ∨ 2 ∈ kidK k ∨ 3 ∈ kidK k) → k = 0) ∧ (4 ∈ kidK k → k = 1 ∨ k = 2 ∨ k = 3) ∧ (5 ∈ kidK k → k = 4) := by decide
theorem PA.z {m0 : yM} {T : Nat} {F : List ND} {N : Nat} {A : List Nat} {n : Nat} (h : PA m0 T F N A n) (k : kK F n = 0) : A = [] ∧ n = 0 := by
  rcases h.up with y | ⟨B, p, M, e1, e2, e3, e4, e5⟩
  · exact y
  · rw [k] at e4
    exact absurd e4 (kidK0 _ e5.1.k37).1
theorem PA.blk {m0 : yM} {T : Nat} {F : List ND} {N : Nat} {A : List Nat} {n : Nat} (h : PA m0 T F N A n) (h0 : kK F 0 = 0) (k : kK F n = 1 ∨ kK F n = 2 ∨ kK F n = 3) : A = [0] := by
  rcases h.up with ⟨y1, y2⟩ | ⟨B, p, M, e1, e2, e3, e4, e5⟩
  · rw [y2, h0] at k; omega
  · have kp : kK F p = 0 := by
      refine (kidK0 _ e5.1.k37).2.1 ?_
      rcases k with k | k | k
      · rw [k] at e4; exact Or.inl e4
      · rw [k] at e4; exact Or.inr (Or.inl e4)
      · rw [k] at e4; exact Or.inr (Or.inr e4)
    obtain ⟨z1, z2⟩ := e5.z kp
    rw [e1, z1, z2]
    rfl
theorem PA.sec {m0 : yM} {T : Nat} {F : List ND} {N : Nat} {A : List Nat} {n : Nat} (h : PA m0 T F N A n) (h0 : kK F 0 = 0) (k : kK F n = 4) : ∃ b, A = [0, b] ∧ (kK F b = 1 ∨ kK F b = 2 ∨ kK F b = 3) ∧ n ∈ kids F b := by
  rcases h.up with ⟨y1, y2⟩ | ⟨B, p, M, e1, e2, e3, e4, e5⟩
  · rw [y2, h0] at k; omega
  · rw [k] at e4
    have kp := (kidK0 _ e5.1.k37).2.2.1 e4
    have := e5.blk h0 kp
    exact ⟨p, by rw [e1, this]; rfl, kp, e3⟩
theorem PA.dcl {m0 : yM} {T : Nat} {F : List ND} {N : Nat} {A : List Nat} {n : Nat} (h : PA m0 T F N A n) (h0 : kK F 0 = 0) (k : kK F n = 5) : ∃ b g, A = [0, b, g] ∧ (kK F b = 1 ∨ kK F b = 2 ∨ kK F b = 3) ∧ kK F g = 4 ∧ g ∈ kids F b ∧ n ∈ kids F g := by
  rcases h.up with ⟨y1, y2⟩ | ⟨B, p, M, e1, e2, e3, e4, e5⟩
  · rw [y2, h0] at k; omega
  · rw [k] at e4
    have kp := (kidK0 _ e5.1.k37).2.2.2 e4
    obtain ⟨b, z1, z2, z3⟩ := e5.sec h0 kp
    exact ⟨b, p, by rw [e1, z1]; rfl, z2, kp, z3, e3⟩
