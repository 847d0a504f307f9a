/-! THE RULES' INVARIANTS: a declaration's parts -/
theorem TW.leaf {m0 : yM} {T : Nat} {F : List ND} {N n : Nat} (h : TW m0 T F N n) (hk : kidK (kK F n) = []) : szF F n = 1 ∧ kids F n = [] := by
  cases N with
  | zero => exact absurd h (fun z => z)
  | succ N =>
    have h0 := h
    obtain ⟨w1, w2, w3, w4, w5, w6, w7⟩ := h
    have e : kids F n = [] := by
      cases hq : kids F n with
      | nil => rfl
      | cons c L =>
        have := h0.kid (show c ∈ kids F n by rw [hq]; exact List.mem_cons_self)
        rw [hk] at this
        cases this
    rw [e] at w6
    have w6 : n + 1 = n + szF F n := w6
    exact ⟨by omega, e⟩
theorem tile_6 {m0 : yM} {T : Nat} {F : List ND} {N : Nat} {rest : List Nat} {e : Nat} : ∀ (a L : List Nat) (i : Nat), (∀ x, x ∈ a → x = 6) → tile F L i e → L.map (kK F) = a ++ rest → (∀ c, c ∈ L → TW m0 T F N c) → (∀ x, x < a.length → L[x]? = some (i + x) ∧ kK F (i + x) = 6) ∧ tile F (L.drop a.length) (i + a.length) e ∧ (L.drop a.length).map (kK F) = rest
  | [], L, i, _, ht, hm, _ => ⟨fun x hx => by simp at hx, ht, hm⟩
  | y :: a, L, i, ha, ht, hm, hw => by
    cases L with
    | nil => simp at hm
    | cons c L =>
      obtain ⟨rfl, ht⟩ := ht
      rw [List.map_cons, List.cons_append] at hm
      obtain ⟨m1, m2⟩ := List.cons.inj hm
      have k6 : kK F c = 6 := m1.trans (ha y List.mem_cons_self)
      have s1 := ((hw c List.mem_cons_self).leaf (by rw [k6]; rfl)).1
      rw [s1] at ht
      obtain ⟨i1, i2, i3⟩ := tile_6 a L (c + 1) (fun x hx => ha x (List.mem_cons_of_mem _ hx)) ht m2 (fun x hx => hw x (List.mem_cons_of_mem _ hx))
      refine ⟨fun x hx => ?_, ?_, i3⟩
      · cases x with
        | zero => exact ⟨rfl, k6⟩
        | succ x =>
          rw [List.length_cons] at hx
          obtain ⟨j1, j2⟩ := i1 x (by omega)
          rw [show c + (x + 1) = c + 1 + x by omega]
          exact ⟨j1, j2⟩
      · rw [List.length_cons, show c + (a.length + 1) = c + 1 + a.length by omega]
        exact i2
/-- no name stands there -/
theorem TW.n6 {m0 : yM} {T : Nat} {F : List ND} : ∀ (N c : Nat), TW m0 T F N c → kK F c ∈ ([7, 8, 9, 10, 30, 31] : List Nat) → ∀ j, c ≤ j → j < c + szF F c → ¬ kK F j = 6 := by
  intro N
  induction N with
  | zero => intro c h; exact absurd h (fun z => z)
  | succ N ih =>
    intro c h hk j h1 h2
    have h0 := h
    obtain ⟨w1, w2, w3, w4, w5, w6, w7⟩ := h
    by_cases e : j = c
    · subst e
      intro z
      rw [z] at hk
      exact absurd hk (by decide)
    · have go : ∀ (L : List Nat) (a : Nat), tile F L a (c + szF F c) → (∀ x, x ∈ L → x ∈ kids F c) → a ≤ j → ¬ kK F j = 6 := by
        intro L
        induction L with
        | nil => intro a ht _ ha; have ht : a = c + szF F c := ht; omega
        | cons x L ihL =>
          intro a ht hx ha
          obtain ⟨rfl, ht⟩ := ht
          have xm := hx x List.mem_cons_self
          rcases Nat.lt_or_ge j (x + szF F x) with y | y
          · have kx := h0.kid xm
            have : ∀ k, k ∈ ([7, 8, 9, 10, 30, 31] : List Nat) → ∀ q, q ∈ kidK k → q ∈ ([7, 8, 9, 10, 30, 31] : List Nat) := by decide
            exact ih x (w7 x xm) (this _ hk _ kx) j ha y
          · exact ihL _ ht (fun q hq => hx q (List.mem_cons_of_mem _ hq)) y
      exact go (kids F c) (c + 1) w6 (fun _ hx => hx) (by omega)
theorem cntF_no (p : Nat → Bool) {i : Nat} : ∀ (q : Nat), (∀ j, i ≤ j → j < i + q → ¬ p j = true) → cntF p (i + q) = cntF p i
  | 0, _ => rfl
  | q + 1, h => by
    rw [show i + (q + 1) = i + q + 1 by omega, cntF_s, if_neg (h (i + q) (by omega) (by omega)), Nat.add_zero]
    exact cntF_no p q (fun j z1 z2 => h j z1 (by omega))
theorem cntF_al (p : Nat → Bool) {i : Nat} : ∀ (q : Nat), (∀ j, i ≤ j → j < i + q → p j = true) → cntF p (i + q) = cntF p i + q
  | 0, _ => rfl
  | q + 1, h => by
    rw [show i + (q + 1) = i + q + 1 by omega, cntF_s, if_pos (h (i + q) (by omega) (by omega)), cntF_al p q (fun j z1 z2 => h j z1 (by omega))]
    omega
/-- a declaration: k names, a place or none, a type, a constant or none -/
theorem dcl_s {m0 : yM} {T : Nat} {F : List ND} {N n : Nat} (h : TW m0 T F N n) (hk : kK F n = 5) : ∃ k e t : Nat, 1 ≤ k ∧ (∀ i, i < k → (kids F n)[i]? = some (n + 1 + i) ∧ kK F (n + 1 + i) = 6) ∧ (kids F n)[k]? = some (n + 1 + k) ∧ ((kK F (n + 1 + k) = 7 ∧ e = k + 1 ∧ t = n + 1 + k + 1) ∨ (e = k ∧ t = n + 1 + k)) ∧ (kids F n)[e]? = some t ∧ (kK F t = 8 ∨ kK F t = 9 ∨ kK F t = 10) ∧ ((t + szF F t < n + szF F n ∧ (kids F n)[e + 1]? = some (t + szF F t) ∧ cnK (kK F (t + szF F t))) ∨ (t + szF F t = n + szF F n ∧ (kids F n)[e + 1]? = none)) ∧ ∀ j, n + 1 + k ≤ j → j < n + szF F n → ¬ kK F j = 6 := by
  cases N with
  | zero => exact absurd h (fun z => z)
  | succ N =>
    obtain ⟨w1, w2, w3, w4, w5, w6, w7⟩ := h
    rw [hk] at w5
    obtain ⟨-, ns, pl, ty, ini, eks, hns, hpl, hty, hini⟩ := w5
    obtain ⟨t1, t2, t3⟩ := tile_6 (6 :: ns) (kids F n) (n + 1) (fun x hx => by
      rcases List.mem_cons.mp hx with rfl | hx
      · rfl
      · exact hns x hx) w6 (by rw [eks]; rfl) w7
    generalize hk' : (6 :: ns).length = k at t1 t2 t3
    have k1 : 1 ≤ k := by rw [← hk', List.length_cons]; omega
    have gk : ∀ x, (kids F n)[k + x]? = ((kids F n).drop k)[x]? := fun x => by rw [List.getElem?_drop]
    have w7' : ∀ c, c ∈ (kids F n).drop k → TW m0 T F N c := fun c hc => w7 c (List.mem_of_mem_drop hc)
    have no6 : ∀ (L : List Nat) (a : Nat), tile F L a (n + szF F n) → (∀ c, c ∈ L → TW m0 T F N c ∧ kK F c ∈ ([7, 8, 9, 10, 30, 31] : List Nat)) → ∀ j, a ≤ j → j < n + szF F n → ¬ kK F j = 6 := by
      intro L
      induction L with
      | nil => intro a ht _ j j1 j2; have ht : a = n + szF F n := ht; omega
      | cons c L ih =>
        intro a ht hc j j1 j2
        obtain ⟨rfl, ht⟩ := ht
        obtain ⟨c1, c2⟩ := hc c List.mem_cons_self
        rcases Nat.lt_or_ge j (c + szF F c) with y | y
        · exact TW.n6 N c c1 c2 j j1 y
        · exact ih _ ht (fun x hx => hc x (List.mem_cons_of_mem _ hx)) j y j2
    have n6 : ∀ j, n + 1 + k ≤ j → j < n + szF F n → ¬ kK F j = 6 := by
      refine no6 _ (n + 1 + k) t2 (fun c hc => ⟨w7' c hc, ?_⟩)
      have : kK F c ∈ pl ++ ty :: ini := by rw [← t3]; exact List.mem_map_of_mem hc
      rcases List.mem_append.mp this with y | y
      · rcases hpl with rfl | rfl
        · cases y
        · rw [List.mem_singleton.mp y]; decide
      · rcases List.mem_cons.mp y with y | y
        · rw [y]; rcases hty with rfl | rfl | rfl <;> decide
        · rcases iniK_m hini y with y | y <;> rw [y] <;> decide
    -- the type and what follows
    have tail : ∀ (L : List Nat) (a : Nat), tile F L a (n + szF F n) → L.map (kK F) = ty :: ini → (∀ c, c ∈ L → TW m0 T F N c) → L[0]? = some a ∧ (kK F a = 8 ∨ kK F a = 9 ∨ kK F a = 10) ∧ ((a + szF F a < n + szF F n ∧ L[1]? = some (a + szF F a) ∧ cnK (kK F (a + szF F a))) ∨ (a + szF F a = n + szF F n ∧ L[1]? = none)) := by
      intro L a ht hm hw
      cases L with
      | nil => simp at hm
      | cons c L =>
        obtain ⟨rfl, ht⟩ := ht
        rw [List.map_cons] at hm
        obtain ⟨m1, m2⟩ := List.cons.inj hm
        refine ⟨rfl, by rw [m1]; exact hty, ?_⟩
        rcases hini with rfl | ⟨x, hx, rfl⟩
        · have : L = [] := by simpa using m2
          subst this
          exact Or.inr ⟨ht, rfl⟩
        · cases L with
          | nil => simp at m2
          | cons c2 L =>
            obtain ⟨rfl, ht⟩ := ht
            rw [List.map_cons] at m2
            obtain ⟨o1, o2⟩ := List.cons.inj m2
            have := tile.le ht
            have z := (hw (c + szF F c) (List.mem_cons_of_mem _ List.mem_cons_self)).at.2
            exact Or.inl ⟨by omega, rfl, by rw [o1]; exact hx⟩
    rcases hpl with rfl | rfl
    · obtain ⟨q1, q2, q3⟩ := tail _ _ t2 t3 w7'
      refine ⟨k, k, n + 1 + k, k1, t1, ?_, Or.inr ⟨rfl, rfl⟩, ?_, q2, ?_, n6⟩
      · rw [← Nat.add_zero k, gk 0]; exact q1
      · have := gk 0; rw [Nat.add_zero] at this; rw [this]; exact q1
      · rw [gk 1]; exact q3
    · cases hd : (kids F n).drop k with
      | nil => rw [hd] at t3; simp at t3
      | cons c L =>
        rw [hd] at t2 t3 w7'
        obtain ⟨rfl, t2⟩ := t2
        rw [List.map_cons] at t3
        obtain ⟨m1, m2⟩ := List.cons.inj t3
        have s1 := ((w7' (n + 1 + k) List.mem_cons_self).leaf (by rw [m1]; rfl)).1
        rw [s1] at t2
        obtain ⟨q1, q2, q3⟩ := tail L _ t2 m2 (fun x hx => w7' x (List.mem_cons_of_mem _ hx))
        have g0 : (kids F n)[k]? = some (n + 1 + k) := by
          have := gk 0
          rw [Nat.add_zero, hd] at this
          rw [this]; rfl
        refine ⟨k, k + 1, n + 1 + k + 1, k1, t1, g0, Or.inl ⟨m1, rfl, rfl⟩, ?_, q2, ?_, n6⟩
        · rw [gk 1, hd]; exact q1
        · rw [show k + 1 + 1 = k + 2 by omega, gk 2, hd]; exact q3
