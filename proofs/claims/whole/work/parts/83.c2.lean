/-! THE MACHINE: the reference's state, its instructions that go on -/
def stk (a : Nat) (m : yM) : List Int32 → Prop
  | [] => True
  | v :: S => m.1 a S.length = v ∧ stk a m S
theorem stk.g {a : Nat} {m m' : yM} : ∀ {S : List Int32}, stk a m S → (∀ i, i < S.length → m'.1 a i = m.1 a i) → stk a m' S
  | [], _, _ => trivial
  | v :: S, h, g => ⟨by rw [g S.length (by simp)]; exact h.1, h.2.g (fun i hi => g i (by simp; omega))⟩
/-- what the reference's run leaves alone -/
def KX (m m' : yM) : Prop := m'.2 = m.2 ∧ ∀ a i, ¬ a = 98 → ¬ a = 99 → ¬ (a = 58 ∧ (i = 65 ∨ i = 67)) → m'.1 a i = m.1 a i
theorem KX.re (m : yM) : KX m m := ⟨rfl, fun _ _ _ _ _ => rfl⟩
theorem KX.tr {m m1 m2 : yM} (h : KX m m1) (h2 : KX m1 m2) : KX m m2 := ⟨h2.1.trans h.1, fun a i x y z => (h2.2 a i x y z).trans (h.2 a i x y z)⟩
theorem KX.s {m m1 : yM} (h : KX m m1) {k j : Nat} {v : Int32} (hk : k = 98 ∨ k = 99 ∨ (k = 58 ∧ (j = 65 ∨ j = 67))) : KX m (y_si m1 k j v) := ⟨h.1, fun a i x y z => by rw [y_si_at, if_neg (by omega)]; exact h.2 a i x y z⟩
theorem KX.a {m m1 : yM} (h : KX m m1) (f : Nat → Int32) : KX m (y_sa m1 98 f) := ⟨h.1, fun a i x y z => by rw [y_sa_o _ _ x]; exact h.2 a i x y z⟩
def RSt (m : yM) (S : List Int32) (M : Nat → Int32) (n : Nat) : Prop := m.1 98 = M ∧ m.1 58 67 = nI S.length ∧ S.length ≤ 1024 ∧ stk 99 m S ∧ m.1 58 65 = nI n
theorem RSt.st {m : yM} {S : List Int32} {M : Nat → Int32} {n : Nat} (h : RSt m S M n) (n' : Nat) : RSt (y_si m 58 65 (nI n')) S M n' := ⟨by rw [← h.1]; rfl, by rw [y_si_at, if_neg (by omega)]; exact h.2.1, h.2.2.1, h.2.2.2.1.g (fun i _ => by rw [y_si_at, if_neg (by omega)]), y_si_same _ _ _ _⟩
theorem RSt.ce {m : yM} {S : List Int32} {M : Nat → Int32} {n : Nat} (h : RSt m S M n) (c : Nat) (v : Int32) : RSt (y_si m 98 c v) S (upd M c v) n := ⟨by rw [y_s1, y_sa_a, h.1], by rw [y_si_at, if_neg (by omega)]; exact h.2.1, h.2.2.1, h.2.2.2.1.g (fun i _ => by rw [y_si_at, if_neg (by omega)]), by rw [y_si_at, if_neg (by omega)]; exact h.2.2.2.2⟩
theorem RSt.sa {m : yM} {S : List Int32} {M : Nat → Int32} {n : Nat} (h : RSt m S M n) (f : Nat → Int32) : RSt (y_sa m 98 f) S f n := ⟨y_sa_a _ _ _, by rw [y_sa_o _ _ (by decide)]; exact h.2.1, h.2.2.1, h.2.2.2.1.g (fun i _ => by rw [y_sa_o _ _ (by decide)]), by rw [y_sa_o _ _ (by decide)]; exact h.2.2.2.2⟩
section RM
variable (xs : List Int32) (d : Nat) {m : yM} {S : List Int32} {M : Nat → Int32} {n : Nat}
theorem r396 (h : RSt m S M n) (hl : S.length < 1024) (v : Int32) : yC (xg xs) d 396 [.ref 58, .int v] m (fun r m' => r = none ∧ KX m m' ∧ RSt m' (v :: S) M n) := by
  obtain ⟨h1, h2, h3, h4, h5⟩ := h
  refine yC.mono (Nat.le_refl _) (fun r m' q => ⟨q.1, ?_⟩) (c396 xs d m v S.length h2 (by omega))
  rw [q.2]
  refine ⟨((KX.re m).s (by omega)).s (by omega), ?_, y_si_same _ _ _ _, by simp; omega, ⟨?_, h4.g (fun i hi => ?_)⟩, ?_⟩
  · rw [← h1]; rfl
  · rw [y_si_at, if_neg (by omega), y_si_same]
  · rw [y_si_at, if_neg (by omega), y_si_at, if_neg (by omega)]
  · rw [y_si_at, if_neg (by omega), y_si_at, if_neg (by omega)]; exact h5
theorem r397 {v : Int32} (h : RSt m (v :: S) M n) : yC (xg xs) d 397 [.ref 58] m (fun r m' => r = some (.int v) ∧ KX m m' ∧ RSt m' S M n) := by
  obtain ⟨h1, h2, h3, h4, h5⟩ := h
  have h3 : S.length + 1 ≤ 1024 := by simpa using h3
  refine yC.mono (Nat.le_refl _) (fun r m' q => ?_) (c397 xs d m S.length (by simpa using h2) (by omega))
  obtain ⟨q1, q2⟩ := q
  rw [q2]
  refine ⟨by rw [q1, h4.1], (KX.re m).s (by omega), ?_, y_si_same _ _ _ _, by omega, h4.2.g (fun i hi => by rw [y_si_at, if_neg (by omega)]), ?_⟩
  · rw [← h1]; rfl
  · rw [y_si_at, if_neg (by omega)]; exact h5
end RM
/-- a call that pops, then more -/
theorem y_pop {G : xG} {d d' j : Nat} {as : List Value} {m : yM} {v : Int32} {P : Int32 → yM → Prop} {R : yM → Prop} (h : yC G d j as m (fun r m1 => r = some (.int v) ∧ R m1)) (hd : d ≤ d') (k : ∀ m1, R m1 → P v m1) : yC G d' j as m (fun r m1 => ∃ u, r = some (Value.int u) ∧ P u m1) := yC.mono hd (fun _ m1 q => ⟨v, q.1, k m1 q.2⟩) h
theorem celI_s {b : Nat} {a : Int32} {c : Nat} (h : celI b a = some c) : nI b + a = nI c ∧ c < 8192 ∧ x_in (nI c) 8192 = true ∧ (nI c).toNatClampNeg = c := by
  unfold celI at h
  split at h
  · rename_i q
    have e := Option.some.inj h
    obtain ⟨k, hk, rfl⟩ := nI_of (x := a) (Int32.not_lt.mpr q.1)
    rw [nI_clamp hk] at e q
    subst e
    exact ⟨nI_add _ _, q.2, x_in_nI q.2 (by decide), nI_clamp (by omega)⟩
  · cases h
theorem tgN_s {a : Int32} {t : Nat} (h : tgN a = some t) : a = nI t ∧ t ≤ 3000 := by
  unfold tgN at h
  split at h
  · rename_i q
    have e := Option.some.inj h
    obtain ⟨k, hk, rfl⟩ := nI_of (x := a) (Int32.not_lt.mpr q.1)
    rw [nI_clamp hk] at e q
    subst e
    exact ⟨rfl, q.2⟩
  · cases h
