/-! THE PURE MACHINE IS SAFE: the stack's height -/
/-- what an instruction does to the height, and whether a loop's head comes next -/
def hS (o : Int32) (s : Nat × Bool) : Option (Nat × Bool) :=
  if s.2 = true then (if o = 13 ∧ s.1 = 0 then some (0, false) else none)
  else if o = 0 ∨ o = 1 ∨ o = 5 then some (s.1 + 1, false)
  else if o = 2 ∨ o = 6 then (if 1 ≤ s.1 then some (s.1 - 1, false) else none)
  else if o = 3 ∨ o = 8 then (if 1 ≤ s.1 then some (s.1, false) else none)
  else if o = 4 then (if 2 ≤ s.1 then some (s.1 - 2, false) else none)
  else if o = 7 then (if 2 ≤ s.1 then some (s.1 - 1, false) else none)
  else if o = 9 then (if 3 ≤ s.1 then some (s.1 - 2, false) else none)
  else if o = 11 then (if s.1 = 1 then some (0, false) else none)
  else if o = 12 then (if s.1 = 0 then some (0, true) else none)
  else if o = 16 then some (s.1, false)
  else if o = 10 ∨ o = 14 ∨ o = 15 ∨ o = 17 ∨ o = 18 then (if s.1 = 0 then some (0, false) else none)
  else none
theorem hS_i {o : Int32} {s s' : Nat × Bool} (e : hS o s = some s') : (o = 13 ∧ s = (0, true) ∧ s' = (0, false)) ∨ (s.2 = false ∧ (((o = 0 ∨ o = 1 ∨ o = 5) ∧ s' = (s.1 + 1, false)) ∨ ((o = 2 ∨ o = 6) ∧ 1 ≤ s.1 ∧ s' = (s.1 - 1, false)) ∨ ((o = 3 ∨ o = 8) ∧ 1 ≤ s.1 ∧ s' = (s.1, false)) ∨ (o = 4 ∧ 2 ≤ s.1 ∧ s' = (s.1 - 2, false)) ∨ (o = 7 ∧ 2 ≤ s.1 ∧ s' = (s.1 - 1, false)) ∨ (o = 9 ∧ 3 ≤ s.1 ∧ s' = (s.1 - 2, false)) ∨ (o = 11 ∧ s.1 = 1 ∧ s' = (0, false)) ∨ (o = 12 ∧ s.1 = 0 ∧ s' = (0, true)) ∨ (o = 16 ∧ s' = (s.1, false)) ∨ ((o = 10 ∨ o = 14 ∨ o = 15 ∨ o = 17 ∨ o = 18) ∧ s.1 = 0 ∧ s' = (0, false)))) := by
  unfold hS at e
  by_cases f : s.2 = true
  · rw [if_pos f] at e
    by_cases c : o = 13 ∧ s.1 = 0
    · rw [if_pos c] at e
      exact Or.inl ⟨c.1, Prod.ext c.2 f, (Option.some.inj e).symm⟩
    · rw [if_neg c] at e; cases e
  rw [if_neg f] at e
  refine Or.inr ⟨Bool.eq_false_iff.mpr f, ?_⟩
  by_cases c1 : o = 0 ∨ o = 1 ∨ o = 5
  · rw [if_pos c1] at e; exact Or.inl ⟨c1, (Option.some.inj e).symm⟩
  rw [if_neg c1] at e
  refine Or.inr ?_
  by_cases c2 : o = 2 ∨ o = 6
  · rw [if_pos c2] at e
    by_cases k : 1 ≤ s.1
    · rw [if_pos k] at e; exact Or.inl ⟨c2, k, (Option.some.inj e).symm⟩
    · rw [if_neg k] at e; cases e
  rw [if_neg c2] at e
  refine Or.inr ?_
  by_cases c3 : o = 3 ∨ o = 8
  · rw [if_pos c3] at e
    by_cases k : 1 ≤ s.1
    · rw [if_pos k] at e; exact Or.inl ⟨c3, k, (Option.some.inj e).symm⟩
    · rw [if_neg k] at e; cases e
  rw [if_neg c3] at e
  refine Or.inr ?_
  by_cases c4 : o = 4
  · rw [if_pos c4] at e
    by_cases k : 2 ≤ s.1
    · rw [if_pos k] at e; exact Or.inl ⟨c4, k, (Option.some.inj e).symm⟩
    · rw [if_neg k] at e; cases e
  rw [if_neg c4] at e
  refine Or.inr ?_
  by_cases c5 : o = 7
  · rw [if_pos c5] at e
    by_cases k : 2 ≤ s.1
    · rw [if_pos k] at e; exact Or.inl ⟨c5, k, (Option.some.inj e).symm⟩
    · rw [if_neg k] at e; cases e
  rw [if_neg c5] at e
  refine Or.inr ?_
  by_cases c6 : o = 9
  · rw [if_pos c6] at e
    by_cases k : 3 ≤ s.1
    · rw [if_pos k] at e; exact Or.inl ⟨c6, k, (Option.some.inj e).symm⟩
    · rw [if_neg k] at e; cases e
  rw [if_neg c6] at e
  refine Or.inr ?_
  by_cases c7 : o = 11
  · rw [if_pos c7] at e
    by_cases k : s.1 = 1
    · rw [if_pos k] at e; exact Or.inl ⟨c7, k, (Option.some.inj e).symm⟩
    · rw [if_neg k] at e; cases e
  rw [if_neg c7] at e
  refine Or.inr ?_
  by_cases c8 : o = 12
  · rw [if_pos c8] at e
    by_cases k : s.1 = 0
    · rw [if_pos k] at e; exact Or.inl ⟨c8, k, (Option.some.inj e).symm⟩
    · rw [if_neg k] at e; cases e
  rw [if_neg c8] at e
  refine Or.inr ?_
  by_cases c9 : o = 16
  · rw [if_pos c9] at e; exact Or.inl ⟨c9, (Option.some.inj e).symm⟩
  rw [if_neg c9] at e
  refine Or.inr ?_
  by_cases c10 : o = 10 ∨ o = 14 ∨ o = 15 ∨ o = 17 ∨ o = 18
  · rw [if_pos c10] at e
    by_cases k : s.1 = 0
    · rw [if_pos k] at e; exact ⟨c10, k, (Option.some.inj e).symm⟩
    · rw [if_neg k] at e; cases e
  · rw [if_neg c10] at e; cases e
def hR : List IT → Nat × Bool → Option (Nat × Bool)
  | [], s => some s
  | x :: C, s => (hS x.1 s).bind (hR C)
theorem hR_app : ∀ (C E : List IT) (s : Nat × Bool), hR (C ++ E) s = (hR C s).bind (hR E)
  | [], E, s => rfl
  | x :: C, E, s => by
    show (hS x.1 s).bind (hR (C ++ E)) = ((hS x.1 s).bind (hR C)).bind (hR E)
    cases hS x.1 s with
    | none => rfl
    | some s' => exact hR_app C E s'
/-- code that begins at one height and ends at another -/
def hT (C : List IT) (h h' : Nat) : Prop := hR C (h, false) = some (h', false)
theorem hT.app {C E : List IT} {a b c : Nat} (h : hT C a b) (h2 : hT E b c) : hT (C ++ E) a c := by
  unfold hT at *
  rw [hR_app, h]
  exact h2
theorem hT.nil {a : Nat} : hT [] a a := rfl
theorem hT.i {x : IT} {a b : Nat} (h : hS x.1 (a, false) = some (b, false)) : hT [x] a b := by
  unfold hT
  show (hS x.1 (a, false)).bind (hR []) = _
  rw [h]
  rfl
theorem hS_0 (h : Nat) : hS 0 (h, false) = some (h + 1, false) := rfl
theorem hS_1 (h : Nat) : hS 1 (h, false) = some (h + 1, false) := rfl
theorem hS_5 (h : Nat) : hS 5 (h, false) = some (h + 1, false) := rfl
theorem hS_2 (h : Nat) : hS 2 (h + 1, false) = some (h, false) := rfl
theorem hS_6 (h : Nat) : hS 6 (h + 1, false) = some (h, false) := rfl
theorem hS_3 (h : Nat) : hS 3 (h + 1, false) = some (h + 1, false) := rfl
theorem hS_8 (h : Nat) : hS 8 (h + 1, false) = some (h + 1, false) := rfl
theorem hS_4 (h : Nat) : hS 4 (h + 2, false) = some (h, false) := rfl
theorem hS_7 (h : Nat) : hS 7 (h + 2, false) = some (h + 1, false) := rfl
theorem hS_9 (h : Nat) : hS 9 (h + 3, false) = some (h + 1, false) := rfl
theorem hS_16 (h : Nat) : hS 16 (h, false) = some (h, false) := rfl
/-- the height, and whether a loop's head comes next, at a place -/
def hAt (D : List IT) (i : Nat) (s : Nat × Bool) : Prop := hR (D.take i) (0, false) = some s
theorem hAt_x {D : List IT} {z : Nat × Bool} (hd : hR D (0, false) = some z) (i : Nat) : ∃ s, hAt D i s := by
  unfold hAt
  cases e : hR (D.take i) (0, false) with
  | some s => exact ⟨s, rfl⟩
  | none =>
    rw [← List.take_append_drop i D, hR_app, e] at hd
    cases hd
theorem hAt.st {D : List IT} {z s : Nat × Bool} (hd : hR D (0, false) = some z) {i : Nat} {x : IT} (h : hAt D i s) (hx : D[i]? = some x) : ∃ s', hS x.1 s = some s' ∧ hAt D (i + 1) s' := by
  have e : hR (D.take (i + 1)) (0, false) = hS x.1 s := by
    unfold hAt at h
    rw [List.take_add_one, hx, hR_app, h]
    show (hS x.1 s).bind (hR []) = _
    cases hS x.1 s <;> rfl
  obtain ⟨s', q⟩ := hAt_x hd (i + 1)
  refine ⟨s', ?_, q⟩
  rw [← e]
  exact q
theorem hAt_0 (D : List IT) : hAt D 0 (0, false) := rfl
theorem hAt_u {D : List IT} {i : Nat} {s s' : Nat × Bool} (h : hAt D i s) (h2 : hAt D i s') : s = s' := by
  unfold hAt at h h2
  rw [h] at h2
  exact Option.some.inj h2
theorem nI_n1 {h : Nat} (k : 1 ≤ h) : nI h + (-1) = nI (h - 1) := by
  obtain ⟨j, rfl⟩ : ∃ j, h = j + 1 := ⟨h - 1, by omega⟩
  rw [Nat.add_sub_cancel, ← nI_1, Int32.add_assoc, show (1 : Int32) + (-1) = 0 from rfl, Int32.add_zero]
theorem nI_n2 {h : Nat} (k : 2 ≤ h) : nI h + (-2) = nI (h - 2) := by
  rw [show (-2 : Int32) = (-1) + (-1) from rfl, ← Int32.add_assoc, nI_n1 (by omega), nI_n1 (by omega)]
  rfl
theorem hS_lay {o : Int32} {s s' : Nat × Bool} (e : hS o s = some s') : nI s.1 + xar_6.getD o.toNatClampNeg 0 = nI s'.1 ∧ s'.1 ≤ s.1 + 1 := by
  have z : ∀ h : Nat, nI h + 0 = nI h := fun h => Int32.add_zero _
  obtain ⟨rfl, rfl, rfl⟩ | ⟨f, q⟩ := hS_i e
  · exact ⟨z 0, by omega⟩
  rcases q with ⟨c, rfl⟩ | ⟨c, k, rfl⟩ | ⟨c, k, rfl⟩ | ⟨rfl, k, rfl⟩ | ⟨rfl, k, rfl⟩ | ⟨rfl, k, rfl⟩ | ⟨rfl, k, rfl⟩ | ⟨rfl, k, rfl⟩ | ⟨rfl, rfl⟩ | ⟨c, k, rfl⟩
  · rcases c with rfl | rfl | rfl <;> exact ⟨nI_1 _, by show s.1 + 1 ≤ _; omega⟩
  · rcases c with rfl | rfl <;> exact ⟨nI_n1 k, by show s.1 - 1 ≤ _; omega⟩
  · rcases c with rfl | rfl <;> exact ⟨z _, by show s.1 ≤ _; omega⟩
  · exact ⟨nI_n2 k, by show s.1 - 2 ≤ _; omega⟩
  · exact ⟨nI_n1 (by omega), by show s.1 - 1 ≤ _; omega⟩
  · exact ⟨nI_n2 (by omega), by show s.1 - 2 ≤ _; omega⟩
  · rw [k]; exact ⟨nI_n1 (h := 1) (by omega), by show 0 ≤ _; omega⟩
  · rw [k]; exact ⟨z 0, by show 0 ≤ _; omega⟩
  · exact ⟨z _, by show s.1 ≤ _; omega⟩
  · rw [k]
    rcases c with rfl | rfl | rfl | rfl | rfl <;> exact ⟨z 0, by show 0 ≤ _; omega⟩
theorem hAt_lay {D : List IT} {z : Nat × Bool} (hd : hR D (0, false) = some z) : ∀ (i : Nat) (s : Nat × Bool), i ≤ D.length → hAt D i s → layP D i = nI s.1 ∧ s.1 ≤ i
  | 0, s, _, h => by rw [← hAt_u (hAt_0 D) h]; exact ⟨rfl, Nat.le_refl _⟩
  | i + 1, s, hi, h => by
    obtain ⟨s0, q0⟩ := hAt_x hd i
    have hx : D[i]? = some (D.getD i dIT) := getD_some (by omega)
    obtain ⟨s', e, q'⟩ := q0.st hd hx
    rw [hAt_u h q']
    obtain ⟨i1, i2⟩ := hAt_lay hd i s0 (by omega) q0
    obtain ⟨l1, l2⟩ := hS_lay e
    refine ⟨?_, by omega⟩
    show layP D i + xar_6.getD ((D.getD i dIT).1).toNatClampNeg 0 = _
    rw [i1, l1]
/-- what can be come to stays so; where a step leads can be come to -/
theorem rch_up (D : List IT) {i k : Nat} (h : rchP D i k = true) : ∀ j, rchP D (i + j) k = true
  | 0 => h
  | j + 1 => by
    show rchS (D.getD (i + j) dIT) (i + j) (rchP D (i + j)) k = true
    have ih := rch_up D h j
    unfold rchS
    split
    · show (rchP D (i + j) k || _ || _) = true
      rw [ih]
      rfl
    · exact ih
theorem rch_go {P : Nat} {D : List IT} (hf : FW P D 0) (h0 : mk0 D) (hP : P < 2 ^ 30) {i k : Nat} (hi : i < D.length) (h : rchP D D.length i = true) (g : (goB (D.getD i dIT).1 = true ∧ k = i + 1) ∨ tgI (D.getD i dIT) = some k) : rchP D D.length k = true := by
  have e : rchP D i i = true := by
    have := rchP_st hf h0 hP (j := i) (D.length - i) i (by omega) (Nat.le_refl _)
    rw [show i + (D.length - i) = D.length by omega] at this
    rw [← this]
    exact h
  have e1 : rchP D (i + 1) k = true := by
    show rchS (D.getD i dIT) i (rchP D i) k = true
    unfold rchS
    rw [if_pos e]
    show (rchP D i k || (goB (D.getD i dIT).1 && decide (k = i + 1)) || decide (tgI (D.getD i dIT) = some k)) = true
    rcases g with ⟨g1, g2⟩ | g
    · rw [g1, decide_eq_true g2]
      cases rchP D i k <;> rfl
    · rw [decide_eq_true g, Bool.or_true]
  have := rch_up D e1 (D.length - (i + 1))
  rw [show i + 1 + (D.length - (i + 1)) = D.length by omega] at this
  exact this
theorem rch_0 (D : List IT) : rchP D D.length 0 = true := by
  have := rch_up D (i := 0) (k := 0) rfl D.length
  rw [Nat.zero_add] at this
  exact this
