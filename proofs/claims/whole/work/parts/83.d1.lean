/-! THE MACHINE: the class's state -/
def frs (m : yM) : List (Nat × Nat × Nat) → Prop
  | [] => True
  | q :: F => m.1 55 F.length = nI q.1 ∧ m.1 56 F.length = nI q.2.1 ∧ m.1 57 F.length = nI q.2.2 ∧ frs m F
theorem frs.g {m m' : yM} : ∀ {F : List (Nat × Nat × Nat)}, frs m F → (∀ a i, 54 < a → a < 58 → i < F.length → m'.1 a i = m.1 a i) → frs m' F
  | [], _, _ => trivial
  | q :: F, h, g => ⟨by rw [g 55 _ (by omega) (by omega) (by simp)]; exact h.1, by rw [g 56 _ (by omega) (by omega) (by simp)]; exact h.2.1, by rw [g 57 _ (by omega) (by omega) (by simp)]; exact h.2.2.1, h.2.2.2.g (fun a i x y z => g a i x y (by simp; omega))⟩
/-- what the class's run leaves alone -/
def KY (m m' : yM) : Prop := m'.2 = m.2 ∧ ∀ a i, ¬ (52 < a ∧ a < 58) → ¬ (a = 52 ∧ (i = 2 ∨ (8 < i ∧ i < 14))) → m'.1 a i = m.1 a i
theorem KY.re (m : yM) : KY m m := ⟨rfl, fun _ _ _ _ => rfl⟩
theorem KY.tr {m m1 m2 : yM} (h : KY m m1) (h2 : KY m1 m2) : KY m m2 := ⟨h2.1.trans h.1, fun a i x y => (h2.2 a i x y).trans (h.2 a i x y)⟩
theorem KY.s {m m1 : yM} (h : KY m m1) {k j : Nat} {v : Int32} (hk : (52 < k ∧ k < 58) ∨ (k = 52 ∧ (j = 2 ∨ (8 < j ∧ j < 14)))) : KY m (y_si m1 k j v) := ⟨h.1, fun a i x y => by rw [y_si_at, if_neg (by omega)]; exact h.2 a i x y⟩
theorem KY.a {m m1 : yM} (h : KY m m1) (f : Nat → Int32) : KY m (y_sa m1 53 f) := ⟨h.1, fun a i x y => by rw [y_sa_o _ _ (by omega)]; exact h.2 a i x y⟩
/-- frames, unit, base, next, stack, cells, steps -/
def CMs (m : yM) (Fr : List (Nat × Nat × Nat)) (u b i : Nat) (S : List Int32) (M : Nat → Int32) (n : Nat) : Prop := m.1 53 = M ∧ (m.1 52 9 = nI S.length ∧ S.length ≤ 1024 ∧ stk 54 m S) ∧ m.1 52 2 = nI n ∧ (m.1 52 10 = nI Fr.length ∧ Fr.length ≤ 16 ∧ frs m Fr) ∧ m.1 52 11 = nI u ∧ m.1 52 12 = nI i ∧ m.1 52 13 = nI b
section CM
variable {m : yM} {Fr : List (Nat × Nat × Nat)} {u b i : Nat} {S : List Int32} {M : Nat → Int32} {n : Nat}
theorem CMs.st (h : CMs m Fr u b i S M n) (n' i' : Nat) : CMs (y_si (y_si m 52 2 (nI n')) 52 12 (nI i')) Fr u b i' S M n' := by
  obtain ⟨h1, ⟨h2, h3, h4⟩, h5, ⟨h6, h7, h8⟩, h9, h10, h11⟩ := h
  have g : ∀ a j, ¬ (a = 52 ∧ (j = 2 ∨ j = 12)) → (y_si (y_si m 52 2 (nI n')) 52 12 (nI i')).1 a j = m.1 a j := fun a j z => by rw [y_si_at, if_neg (by omega), y_si_at, if_neg (by omega)]
  exact ⟨by rw [← h1]; rfl, ⟨by rw [g 52 9 (by omega)]; exact h2, h3, h4.g (fun j _ => g 54 j (by omega))⟩, by rw [y_si_at, if_neg (by omega), y_si_same], ⟨by rw [g 52 10 (by omega)]; exact h6, h7, h8.g (fun a j _ _ _ => g a j (by omega))⟩, by rw [g 52 11 (by omega)]; exact h9, y_si_same _ _ _ _, by rw [g 52 13 (by omega)]; exact h11⟩
theorem CMs.nx (h : CMs m Fr u b i S M n) (i' : Nat) : CMs (y_si m 52 12 (nI i')) Fr u b i' S M n := by
  obtain ⟨h1, ⟨h2, h3, h4⟩, h5, ⟨h6, h7, h8⟩, h9, h10, h11⟩ := h
  have g : ∀ a j, ¬ (a = 52 ∧ j = 12) → (y_si m 52 12 (nI i')).1 a j = m.1 a j := fun a j z => by rw [y_si_at, if_neg (by omega)]
  exact ⟨by rw [← h1]; rfl, ⟨by rw [g 52 9 (by omega)]; exact h2, h3, h4.g (fun j _ => g 54 j (by omega))⟩, by rw [g 52 2 (by omega)]; exact h5, ⟨by rw [g 52 10 (by omega)]; exact h6, h7, h8.g (fun a j _ _ _ => g a j (by omega))⟩, by rw [g 52 11 (by omega)]; exact h9, y_si_same _ _ _ _, by rw [g 52 13 (by omega)]; exact h11⟩
theorem CMs.sa (h : CMs m Fr u b i S M n) (f : Nat → Int32) : CMs (y_sa m 53 f) Fr u b i S f n := by
  obtain ⟨h1, ⟨h2, h3, h4⟩, h5, ⟨h6, h7, h8⟩, h9, h10, h11⟩ := h
  have g : ∀ a, ¬ a = 53 → (y_sa m 53 f).1 a = m.1 a := fun a z => y_sa_o _ _ z
  exact ⟨y_sa_a _ _ _, ⟨by rw [g 52 (by omega)]; exact h2, h3, h4.g (fun j _ => by rw [g 54 (by omega)])⟩, by rw [g 52 (by omega)]; exact h5, ⟨by rw [g 52 (by omega)]; exact h6, h7, h8.g (fun a j _ _ _ => by rw [g a (by omega)])⟩, by rw [g 52 (by omega)]; exact h9, by rw [g 52 (by omega)]; exact h10, by rw [g 52 (by omega)]; exact h11⟩
theorem CMs.ce (h : CMs m Fr u b i S M n) (c : Nat) (v : Int32) : CMs (y_si m 53 c v) Fr u b i S (upd M c v) n := by
  rw [y_s1, h.1]
  exact h.sa _
theorem p246 (xs : List Int32) (d : Nat) (h : CMs m Fr u b i S M n) (hl : S.length < 1024) (v : Int32) : yC (xg xs) d 246 [.ref 52, .int v] m (fun r m' => r = none ∧ KY m m' ∧ CMs m' Fr u b i (v :: S) M n) := by
  obtain ⟨h1, ⟨h2, h3, h4⟩, h5, ⟨h6, h7, h8⟩, h9, h10, h11⟩ := h
  refine yC.mono (Nat.le_refl _) (fun r m' q => ⟨q.1, ?_⟩) (c246 xs d m v S.length h2 hl)
  rw [q.2]
  have g : ∀ a j, ¬ a = 54 → ¬ (a = 52 ∧ j = 9) → (y_si (y_si m 54 S.length v) 52 9 (nI (S.length + 1))).1 a j = m.1 a j := fun a j z1 z2 => by rw [y_si_at, if_neg (by omega), y_si_at, if_neg (by omega)]
  refine ⟨((KY.re m).s (by omega)).s (by omega), by rw [← h1]; rfl, ⟨y_si_same _ _ _ _, by simp; omega, ?_, h4.g (fun j hj => ?_)⟩, by rw [g 52 2 (by omega) (by omega)]; exact h5, ⟨by rw [g 52 10 (by omega) (by omega)]; exact h6, h7, h8.g (fun a j _ _ _ => g a j (by omega) (by omega))⟩, by rw [g 52 11 (by omega) (by omega)]; exact h9, by rw [g 52 12 (by omega) (by omega)]; exact h10, by rw [g 52 13 (by omega) (by omega)]; exact h11⟩
  · rw [y_si_at, if_neg (by omega), y_si_same]
  · rw [y_si_at, if_neg (by omega), y_si_at, if_neg (by omega)]
theorem p248 (xs : List Int32) (d : Nat) {v : Int32} (h : CMs m Fr u b i (v :: S) M n) : yC (xg xs) d 248 [.ref 52] m (fun r m' => r = some (.int v) ∧ KY m m' ∧ CMs m' Fr u b i S M n) := by
  obtain ⟨h1, ⟨h2, h3, h4⟩, h5, ⟨h6, h7, h8⟩, h9, h10, h11⟩ := h
  have h3 : S.length + 1 ≤ 1024 := by simpa using h3
  refine yC.mono (Nat.le_refl _) (fun r m' q => ?_) (c248 xs d m S.length (by simpa using h2) (by omega))
  obtain ⟨q1, q2⟩ := q
  rw [q2]
  have g : ∀ a j, ¬ (a = 52 ∧ j = 9) → (y_si m 52 9 (nI S.length)).1 a j = m.1 a j := fun a j z => by rw [y_si_at, if_neg (by omega)]
  exact ⟨by rw [q1, h4.1], (KY.re m).s (by omega), by rw [← h1]; rfl, ⟨y_si_same _ _ _ _, by omega, h4.2.g (fun j _ => g 54 j (by omega))⟩, by rw [g 52 2 (by omega)]; exact h5, ⟨by rw [g 52 10 (by omega)]; exact h6, h7, h8.g (fun a j _ _ _ => g a j (by omega))⟩, by rw [g 52 11 (by omega)]; exact h9, by rw [g 52 12 (by omega)]; exact h10, by rw [g 52 13 (by omega)]; exact h11⟩
end CM
theorem c250 (xs : List Int32) (d : Nat) (m : yM) (i lo n : Int32) : yC (xg xs) (d + 1) 250 [.int i, .int lo, .int n] m (fun r m' => r = some (.int (if 0 ≤ i.toInt - lo.toInt ∧ i.toInt - lo.toInt < n.toInt then 1 else 0)) ∧ m' = m) := by
  have z64 : (0 : Int64).toInt = 0 := rfl
  have c1 : lg_cmp (i.toInt64 - lo.toInt64) 0 < 0 ↔ i.toInt - lo.toInt < 0 := by rw [lg_cmp_lt, Int64.lt_iff_toInt_lt, f64, z64]
  have c2 : 0 ≤ lg_cmp (i.toInt64 - lo.toInt64) n.toInt64 ↔ n.toInt ≤ i.toInt - lo.toInt := by rw [lg_cmp_ge, Int64.le_iff_toInt_le, f64, i64_r]
  refine w250_0 xs d _ _ _ m _ ⟨fun u => ⟨?_, rfl⟩, fun u => ⟨fun w => ⟨?_, rfl⟩, fun w => ⟨?_, rfl⟩⟩⟩
  · rw [if_neg (fun q => by have := c1.mp u; omega)]
  · rw [if_neg (fun q => by have := c2.mp w; omega)]
  · rw [if_pos ⟨by apply Int.not_lt.mp; exact fun z => u (c1.mpr z), by apply Int.not_le.mp; exact fun z => w (c2.mpr z)⟩]
/-- what one of the class's instructions leaves: behind next -/
def ciQ (m : yM) (Fr : List (Nat × Nat × Nat)) (u b i n : Nat) (M : Nat → Int32) (X : PR) (r : Option Value) (m' : yM) : Prop := KY m m' ∧ match X with
  | .inl (S', M') => r = some (.int 0) ∧ CMs m' Fr u b i S' M' n
  | .inr c => r = some (.int c) ∧ m'.1 53 = M ∧ m'.1 52 2 = nI n
theorem c249 (xs : List Int32) (d : Nat) {m : yM} {Fr : List (Nat × Nat × Nat)} {u b i : Nat} {S : List Int32} {M : Nat → Int32} {n : Nat} {x : IT} {X : PR} (h : CMs m Fr u b i S M n) (hX : opTake b x M S = some X) : yC (xg xs) (d + 2) 249 [.ref 52, .int x.2.1, .int x.2.2.1, .int x.2.2.2.1] m (ciQ m Fr u b i n M X) := by
  unfold opTake at hX
  split at hX
  · rename_i j S'
    have sl : S'.length + 1 ≤ 1024 := by have := h.2.1.2.1; simpa using this
    refine w249_0 xs (d + 1) _ _ _ m _ (y_pop (p248 xs (d + 1) h) (Nat.le_refl _) (fun m1 q => y_ci (c250 xs d m1 _ _ _) (by omega) ?_))
    obtain ⟨k1, s1⟩ := q
    rw [s1.2.2.2.2.2.2]
    cases ho : elI b x j with
    | none => rw [ho] at hX; cases hX
    | some o =>
      rw [ho] at hX
      obtain ⟨e1, e2⟩ := elI_s ho
      refine ⟨fun w => ?_, fun w => ?_⟩
      · have w : 0 ≤ j.toInt - x.2.2.1.toInt ∧ j.toInt - x.2.2.1.toInt < x.2.2.2.1.toInt := by
          by_cases q : 0 ≤ j.toInt - x.2.2.1.toInt ∧ j.toInt - x.2.2.1.toInt < x.2.2.2.1.toInt
          · exact q
          · rw [if_neg q] at w; exact absurd rfl w
        obtain ⟨c, rfl⟩ := e1.mp w
        obtain ⟨a1, a2⟩ := e2 c rfl
        have lt := Int32.toInt_lt x.2.2.2.1
        rw [(elI_f w.1 (by omega)).2, a1]
        have eX : X = .inl (M c :: S', M) := (Option.some.inj hX).symm
        rw [eX]
        refine y_ci (m247 xs (d + 1) m1 a2) (Nat.le_refl _) (y_nx (p246 xs (d + 1) s1 (by omega) _) (Nat.le_refl _) (fun m2 q2 => ⟨k1.tr q2.1, rfl, ?_⟩))
        rw [s1.1] at q2
        exact q2.2
      · have no : o = none := by
          cases o with
          | none => rfl
          | some c => rw [if_pos (e1.mpr ⟨c, rfl⟩)] at w; exact absurd w (by decide)
        have eX : X = .inr (-4) := by rw [no] at hX; exact (Option.some.inj hX).symm
        rw [eX]
        exact ⟨k1, rfl, s1.1, s1.2.2.1⟩
  · cases hX
theorem c251 (xs : List Int32) (d : Nat) {m : yM} {Fr : List (Nat × Nat × Nat)} {u b i : Nat} {S : List Int32} {M : Nat → Int32} {n : Nat} {x : IT} {X : PR} (h : CMs m Fr u b i S M n) (hX : opPut b x M S = some X) : yC (xg xs) (d + 2) 251 [.ref 52, .int x.2.1, .int x.2.2.1, .int x.2.2.2.1] m (ciQ m Fr u b i n M X) := by
  unfold opPut at hX
  split at hX
  · rename_i v j S'
    refine w251_0 xs (d + 1) _ _ _ m _ (y_pop (p248 xs (d + 1) h) (Nat.le_refl _) (fun m1 q => y_pop (p248 xs (d + 1) q.2) (Nat.le_refl _) (fun m2 q2 => y_ci (c250 xs d m2 _ _ _) (by omega) ?_)))
    have k1 := q.1.tr q2.1
    have s1 := q2.2
    rw [s1.2.2.2.2.2.2]
    cases ho : elI b x j with
    | none => rw [ho] at hX; cases hX
    | some o =>
      rw [ho] at hX
      obtain ⟨e1, e2⟩ := elI_s ho
      refine ⟨fun w => ?_, fun w => ?_⟩
      · have w : 0 ≤ j.toInt - x.2.2.1.toInt ∧ j.toInt - x.2.2.1.toInt < x.2.2.2.1.toInt := by
          by_cases q : 0 ≤ j.toInt - x.2.2.1.toInt ∧ j.toInt - x.2.2.1.toInt < x.2.2.2.1.toInt
          · exact q
          · rw [if_neg q] at w; exact absurd rfl w
        obtain ⟨c, rfl⟩ := e1.mp w
        obtain ⟨a1, a2⟩ := e2 c rfl
        have lt := Int32.toInt_lt x.2.2.2.1
        rw [(elI_f w.1 (by omega)).2, a1]
        have eX : X = .inl (S', upd M c v) := (Option.some.inj hX).symm
        rw [eX]
        exact y_cv (m234 xs (d + 1) m2 a2 v) (Nat.le_refl _) ⟨k1.s (by omega), rfl, s1.ce c v⟩
      · have no : o = none := by
          cases o with
          | none => rfl
          | some c => rw [if_pos (e1.mpr ⟨c, rfl⟩)] at w; exact absurd w (by decide)
        have eX : X = .inr (-4) := by rw [no] at hX; exact (Option.some.inj hX).symm
        rw [eX]
        exact ⟨k1, rfl, s1.1, s1.2.2.1⟩
  · cases hX
