/-! THE REFERENCE'S READER: its tokens beside the class's -/
/-- the class's tokens, the reference's memory when reading begins, the bytes, how many, the last token -/
abbrev EV : Type := yM × yM × (Nat → Nat) × Nat × Nat
def wd (f : Nat → Nat) (n t : Nat) : List Int32 := nmT f (tokN f n (ps f n t)).2 ((tokN f n (ps f n t)).1.2.2 - (tokN f n (ps f n t)).2)
def EOk (E : EV) : Prop := TKok E.1 E.2.2.2.2 ∧ E.2.2.2.1 ≤ 8192 ∧ isEnd E.2.2.1 E.2.2.2.1 E.2.2.2.2 ∧ (∀ i, i < E.2.2.2.2 → ¬ isEnd E.2.2.1 E.2.2.2.1 i) ∧ (∀ i, i < E.2.2.2.1 → E.2.2.1 i < 256) ∧ ∃ Ns, KN <+: Ns ∧ Ns.Nodup ∧ ∀ i, i ≤ E.2.2.2.2 → TkA E.1 Ns E.2.2.1 E.2.2.2.1 i
/-- v is the reference's number of the name that token t is -/
def nmV (E : EV) (Rs : List (List Int32)) (t : Nat) (v : Int32) : Prop := ∃ j, j < Rs.length ∧ Rs.getD j [] = wd E.2.2.1 E.2.2.2.1 t ∧ v = nI j
theorem nmV.mono {E : EV} {Rs Rs' : List (List Int32)} {t : Nat} {v : Int32} (h : nmV E Rs t v) (hp : Rs <+: Rs') : nmV E Rs' t v := by
  obtain ⟨j, j1, j2, j3⟩ := h
  obtain ⟨S, rfl⟩ := hp
  refine ⟨j, by rw [List.length_append]; omega, ?_, j3⟩
  rw [← j2, List.getD_eq_getElem?_getD, List.getD_eq_getElem?_getD, List.getElem?_append_left j1]
def sK (s : Nat) : Nat := if s < 6 then 69 + s else 128 + s
abbrev sOk (s : Nat) : Prop := (1 ≤ s ∧ s < 6) ∨ (38 ≤ s ∧ s < 125)
/-- the reference's kind and value of the class's token t -/
def RK (E : EV) (Rs : List (List Int32)) (t : Nat) (a v : Int32) : Prop := ∃ K : Nat, E.1.1 9 t = nI K ∧ K < 256 ∧ ((K < 41 ∧ a = 1 ∧ v = nI K) ∨ (K = 64 ∧ a = 2 ∧ nmV E Rs t v) ∨ (K = 65 ∧ a = 3 ∧ v = E.1.1 11 t) ∨ (K = 66 ∧ a = 4 ∧ v = E.1.1 11 t) ∨ (K = 67 ∧ a = 0) ∨ (∃ s, sOk s ∧ K = sK s ∧ a = 5 ∧ v = nI s))
def GI (m : yM) : Prop := ∀ a, a < 20000 → m.1 66 a = -1 ∨ x_in (m.1 67 a) 20000 = true
/-- what the reader leaves alone -/
def NK (m m' : yM) : Prop := (∀ a i, a ≠ 58 → a < 60 ∨ 69 < a → m'.1 a i = m.1 a i) ∧ (∀ i, i < 3 ∨ (9 < i ∧ i ≠ 12 ∧ i ≠ 21 ∧ i ≠ 22) → m'.1 58 i = m.1 58 i) ∧ m'.2 = m.2
def RRo (E : EV) (t o z : Nat) (Rs : List (List Int32)) (m : yM) : Prop := NK E.2.1 m ∧ TY m E.2.2.1 E.2.2.2.1 ∧ NR m Rs ∧ Rs.length ≤ ps E.2.2.1 E.2.2.2.1 (t + 1) ∧ offs Rs Rs.length ≤ ps E.2.2.1 E.2.2.2.1 (t + 1) ∧ t ≤ E.2.2.2.2 ∧ m.1 58 3 = 0 ∧ m.1 58 5 = nI (ps E.2.2.1 E.2.2.2.1 (t + 1)) ∧ m.1 58 8 = E.1.1 10 t ∧ m.1 58 9 = (if t = 0 then 0 else E.1.1 10 (t - 1)) ∧ RK E Rs t (m.1 58 6) (m.1 58 7) ∧ m.1 58 22 = nI o ∧ o ≤ 60 ∧ m.1 58 21 = nI z ∧ z ≤ 19999 ∧ GI m
def RRe (E : EV) (c p : Int32) (m : yM) : Prop := NK E.2.1 m ∧ m.1 58 3 = c ∧ 0 < c ∧ m.1 58 4 = p ∧ (∃ z : Nat, m.1 58 21 = nI z ∧ z ≤ 19999) ∧ GI m ∧ m.1 61 0 = 0
theorem NK.si {m m' : yM} (h : NK m m') {k i : Nat} {v : Int32} (hk : (60 ≤ k ∧ k ≤ 69) ∨ (k = 58 ∧ ((3 ≤ i ∧ i ≤ 9) ∨ i = 12 ∨ i = 21 ∨ i = 22))) : NK m (y_si m' k i v) := by
  refine ⟨fun a b h1 h2 => ?_, fun b hb => ?_, h.2.2⟩
  · rw [y_si_at, if_neg (by omega)]; exact h.1 a b h1 h2
  · rw [y_si_at, if_neg (by omega)]; exact h.2.1 b hb
theorem NK.kr {m m' m2 : yM} (h : NK m m') (hk : Kr m' m2) : NK m m2 := by
  refine ⟨fun a b h1 h2 => ?_, fun b hb => ?_, hk.2.trans h.2.2⟩
  · rw [hk.1 a b (by omega) (by omega) (by omega)]; exact h.1 a b h1 h2
  · rw [hk.1 58 b (by omega) (by omega) (by omega)]; exact h.2.1 b hb
theorem GI.si {m : yM} (h : GI m) {k i : Nat} {v : Int32} (hk : k ≠ 66 ∧ k ≠ 67) : GI (y_si m k i v) := by
  intro a ha
  rw [y_si_at, if_neg (by omega), y_si_at, if_neg (by omega)]
  exact h a ha
theorem GI.kr {m m' : yM} (h : GI m) (hk : Kr m m') : GI m' := by
  intro a ha
  rw [hk.1 66 a (by omega) (by omega) (by omega), hk.1 67 a (by omega) (by omega) (by omega)]
  exact h a ha
/-- positions -/
theorem psL {E : EV} (h : EOk E) : ∀ t, t ≤ E.2.2.2.2 → ps E.2.2.1 E.2.2.2.1 t ≤ E.2.2.2.1
  | 0, _ => Nat.zero_le _
  | t + 1, ht => by
    have ih := psL h t (by omega)
    have ne : ¬ ((tokN E.2.2.1 E.2.2.2.1 (ps E.2.2.1 E.2.2.2.1 t)).1.1 = 0 ∨ (tokN E.2.2.1 E.2.2.2.1 (ps E.2.2.1 E.2.2.2.1 t)).1.1 = 5) := h.2.2.2.1 t (by omega)
    show (tokN E.2.2.1 E.2.2.2.1 (ps E.2.2.1 E.2.2.2.1 t)).1.2.2 ≤ _
    unfold tokN at ne ⊢
    by_cases z : (blk E.2.2.1 E.2.2.2.1 8192 (ps E.2.2.1 E.2.2.2.1 t)).2 = true
    · rw [if_pos z] at ne
      exact absurd (Or.inr rfl) ne
    · rw [if_neg z] at ne ⊢
      exact (tkAt_adv (fun y => ne (Or.inl y)) (fun y => ne (Or.inr y))).2
theorem twN_K (f : Nat → Nat) (n p : Nat) : twN f n p = 0 ∨ (70 ≤ twN f n p ∧ twN f n p ≤ 74) := by
  unfold twN
  (repeat' split) <;> omega
theorem sgT_s {f : Nat → Nat} {n p : Nat} (h : (sgT f n p).1 = 4) : ∃ s, sOk s ∧ (sgT f n p).2.1 = sK s := by
  unfold sgT at h ⊢
  have k := twN_K f n p
  split
  · split
    · rename_i z
      refine ⟨f p, ?_, ?_⟩
      · simp only [List.mem_cons, List.not_mem_nil, or_false] at z
        right
        omega
      · simp only [List.mem_cons, List.not_mem_nil, or_false] at z
        show 128 + f p = sK (f p)
        unfold sK
        rw [if_neg (by omega)]
    · rename_i z1 z2
      rw [if_pos z1, if_neg z2] at h
      exact absurd h (by simp)
  · rename_i z
    refine ⟨twN f n p - 69, Or.inl (by omega), ?_⟩
    show twN f n p = sK (twN f n p - 69)
    unfold sK
    rw [if_pos (by omega)]
    omega
theorem tkAt_s {f : Nat → Nat} {n p : Nat} (h : (tkAt f n p).1 = 4) : ∃ s, sOk s ∧ (tkAt f n p).2.1 = sK s := by
  unfold tkAt at h ⊢
  split
  · rename_i z; rw [if_pos z] at h; exact absurd h (by simp)
  · rename_i z
    rw [if_neg z] at h
    split
    · rename_i z; rw [if_pos z] at h
      have := timT_K f n p (rn f (isDg 10) (n - (p + 2)) (p + 2)) (dv f 10 (n - (p + 2)) (p + 2) 0)
      omega
    · rename_i z
      rw [if_neg z] at h
      split
      · rename_i z; rw [if_pos z] at h
        have := numT_K f n p (rn f (isDg 10) (n - p) p) (dv f 10 (n - p) p 0)
        omega
      · rename_i z
        rw [if_neg z] at h
        split
        · rename_i z; rw [if_pos z] at h
          split at h <;> exact absurd h (by simp)
        · rename_i z
          rw [if_neg z] at h
          split
          · rename_i z; rw [if_pos z] at h
            have := plT_K f n p (rn f (isDg 10) (n - (p + 3)) (p + 3)) (dv f 10 (n - (p + 3)) (p + 3) 0)
            omega
          · rename_i z
            rw [if_neg z] at h
            exact sgT_s h
theorem plT_b {f : Nat → Nat} {n p E V : Nat} (h : (plT f n p E V).1 = 5) : 1 ≤ (plT f n p E V).2.1 ∧ (plT f n p E V).2.1 ≤ 5 := by
  unfold plT at h ⊢
  by_cases a1 : wyN (grN f n (p + 1)) = 3 ∨ ¬ (p + 2 < n ∧ (gN (f (p + 2)) = 88 ∨ gN (f (p + 2)) = 87))
  · rw [if_pos a1]; decide
  · rw [if_neg a1] at h ⊢
    by_cases a2 : E = p + 3 ∨ (if gN (f (p + 2)) = 88 then 255 else 63) < V ∨ (E < n ∧ isPN (f E))
    · rw [if_pos a2]; decide
    · rw [if_neg a2] at h
      exact absurd h (by simp)
theorem tkAt_b {f : Nat → Nat} {n p : Nat} (h : (tkAt f n p).1 = 5) : 1 ≤ (tkAt f n p).2.1 ∧ (tkAt f n p).2.1 ≤ 5 := by
  have fi : ∀ e V, (finN f n e V).1 = 5 → 1 ≤ (finN f n e V).2.1 ∧ (finN f n e V).2.1 ≤ 5 := by
    intro e V h
    unfold finN at h ⊢
    split
    · decide
    · rename_i z; rw [if_neg z] at h; exact absurd h (by simp)
  unfold tkAt at h ⊢
  split
  · rename_i z; rw [if_pos z] at h; exact absurd h (by simp)
  · rename_i z
    rw [if_neg z] at h
    split
    · rename_i z; rw [if_pos z] at h
      unfold timT at h ⊢
      (repeat' split at h) <;> (repeat' split) <;> first | decide | exact fi _ _ h | omega | contradiction
    · rename_i z
      rw [if_neg z] at h
      split
      · rename_i z; rw [if_pos z] at h
        unfold numT at h ⊢
        (repeat' split at h) <;> (repeat' split) <;> first | decide | exact fi _ _ h | omega | contradiction
      · rename_i z
        rw [if_neg z] at h
        split
        · rename_i z; rw [if_pos z] at h
          split
          · decide
          · rename_i z2; rw [if_neg z2] at h; exact absurd h (by simp)
        · rename_i z
          rw [if_neg z] at h
          split
          · rename_i z; rw [if_pos z] at h
            exact plT_b h
          · rename_i z
            rw [if_neg z] at h
            unfold sgT at h ⊢
            split
            · rename_i z1; rw [if_pos z1] at h
              split
              · rename_i z2; rw [if_pos z2] at h; exact absurd h (by simp)
              · decide
            · rename_i z1; rw [if_neg z1] at h; exact absurd h (by simp)
theorem KN41 : KN.length = 75 ∧ KN.Nodup := by decide +kernel
theorem getD_pre {Ns : List (List Int32)} (h : KN <+: Ns) {j : Nat} (hj : j < 75) : Ns.getD j [] = KN.getD j [] := by
  obtain ⟨S, rfl⟩ := h
  rw [List.getD_eq_getElem?_getD, List.getD_eq_getElem?_getD, List.getElem?_append_left (by rw [KN41.1]; exact hj)]
theorem nodup_getD {L : List (List Int32)} (h : L.Nodup) {i j : Nat} (hi : i < L.length) (hj : j < L.length) (e : L.getD i [] = L.getD j []) : i = j := by
  rw [List.getD_eq_getElem?_getD, List.getD_eq_getElem?_getD, List.getElem?_eq_getElem hi, List.getElem?_eq_getElem hj] at e
  exact (List.getElem_inj h).mp e
