/-! CLEAR, FEED, END: the text on both sides -/
/-- both texts are the same k bytes -/
def Rt (m : yM) (k : Nat) : Prop := m.1 0 9 = nI k ∧ m.1 58 2 = nI k ∧ k ≤ 8192 ∧ ∀ i, i < k → m.1 1 i = m.1 59 i
/-- nothing but the texts (and the reference's word 'code') has changed -/
def Sm (m m' : yM) : Prop := (∀ a i, a ≠ 1 → a ≠ 59 → ¬ (a = 0 ∧ i = 9) → ¬ (a = 58 ∧ (i = 0 ∨ i = 2)) → m'.1 a i = m.1 a i) ∧ m'.2 = m.2
theorem Sm.rf (m : yM) : Sm m m := ⟨fun _ _ _ _ _ _ => rfl, rfl⟩
theorem Sm.tr {a b c : yM} (h : Sm a b) (h2 : Sm b c) : Sm a c := ⟨fun q i h1 h3 h4 h5 => (h2.1 q i h1 h3 h4 h5).trans (h.1 q i h1 h3 h4 h5), h2.2.trans h.2⟩
theorem Sm.si {m : yM} {k i : Nat} {v : Int32} (h : k = 1 ∨ k = 59 ∨ (k = 0 ∧ i = 9) ∨ (k = 58 ∧ (i = 0 ∨ i = 2))) : Sm m (y_si m k i v) := ⟨fun a b h1 h2 h3 h4 => by
  rw [y_si_at]
  rw [if_neg (fun z => by
    obtain ⟨rfl, rfl⟩ := z
    rcases h with h | h | h | h
    · exact h1 h
    · exact h2 h
    · exact h3 h
    · exact h4 h)], rfl⟩
theorem ap4_t {m : yM} {n : Int32} {k c s t : Nat} {b0 b1 b2 b3 : Int32} (h : t ≠ c) (i : Nat) : (ap4 m n k c s t b0 b1 b2 b3).1 t i = if i = k then b0 else if i = k + 1 then b1 else if i = k + 2 then b2 else if i = k + 3 then b3 else m.1 t i := by
  unfold ap4
  simp only [y_si_at]
  grind
theorem ap4_o {m : yM} {n : Int32} {k c s t : Nat} {b0 b1 b2 b3 : Int32} {a i : Nat} (h1 : a ≠ t) (h2 : ¬ (a = c ∧ i = s)) : (ap4 m n k c s t b0 b1 b2 b3).1 a i = m.1 a i := by
  unfold ap4
  simp only [y_si_at]
  grind
theorem ap4_2 {m : yM} {n : Int32} {k c s t : Nat} {b0 b1 b2 b3 : Int32} : (ap4 m n k c s t b0 b1 b2 b3).2 = m.2 := rfl
theorem bu_bs (v : Int32) (s : Nat) (hs : s ≤ 24) : bu v (nI s) = bs v (nI s) := by
  unfold bu bs
  rw [x_b8 (x := (v.toUInt32 >>> ((nI s).toUInt32 &&& Int32.toUInt32 31)).toInt32) (y := v >>> (nI s &&& 31)) (fun i hi => by
    rw [b_ushr s (by omega) v i, b_sshr s (by omega) v (by omega), if_pos (by omega)])]
theorem apX_1 (m : yM) (v : Int32) (k i : Nat) : (apX m v k).1 1 i = if i = k then bu v 24 else if i = k + 1 then bu v 16 else if i = k + 2 then bu v 8 else if i = k + 3 then bu v 0 else m.1 1 i := ap4_t (by decide) i
theorem apY_1 (m : yM) (v : Int32) (k i : Nat) : (apY m v k).1 59 i = if i = k then bs v 24 else if i = k + 1 then bs v 16 else if i = k + 2 then bs v 8 else if i = k + 3 then bs v 0 else m.1 59 i := ap4_t (by decide) i
theorem apX_o {m : yM} {v : Int32} {k a i : Nat} (h1 : a ≠ 1) (h2 : ¬ (a = 0 ∧ i = 9)) : (apX m v k).1 a i = m.1 a i := ap4_o h1 h2
theorem apY_o {m : yM} {v : Int32} {k a i : Nat} (h1 : a ≠ 59) (h2 : ¬ (a = 58 ∧ i = 2)) : (apY m v k).1 a i = m.1 a i := ap4_o h1 h2
theorem ap_rel {mX mY : yM} {v : Int32} {k : Nat} (h : ∀ i, i < k → mX.1 1 i = mY.1 59 i) : ∀ i, i < k + 4 → (apX mX v k).1 1 i = (apY mY v k).1 59 i := by
  intro i hi
  rw [apX_1, apY_1]
  have q0 : bu v 0 = bs v 0 := bu_bs v 0 (by decide)
  have q1 : bu v 8 = bs v 8 := bu_bs v 8 (by decide)
  have q2 : bu v 16 = bs v 16 := bu_bs v 16 (by decide)
  have q3 : bu v 24 = bs v 24 := bu_bs v 24 (by decide)
  rw [q0, q1, q2, q3]
  by_cases h0 : i = k
  · simp [h0]
  · by_cases h1 : i = k + 1
    · simp [h1]
    · by_cases h2 : i = k + 2
      · simp [h2]
      · by_cases h3 : i = k + 3
        · simp [h3]
        · simp only [h0, h1, h2, h3, if_false]
          exact h i (by omega)
theorem Sm.apX {m : yM} {v : Int32} {k : Nat} : Sm m (apX m v k) := ⟨fun a i h1 _ h3 _ => apX_o h1 h3, rfl⟩
theorem Sm.apY {m : yM} {v : Int32} {k : Nat} : Sm m (apY m v k) := ⟨fun a i _ h2 _ h4 => apY_o h2 (fun z => h4 ⟨z.1, Or.inr z.2⟩), rfl⟩
theorem fdX_o {m : yM} {k : Nat} {v1 v2 v3 v4 v5 : Int32} {a i : Nat} (h1 : a ≠ 1) (h2 : ¬ (a = 0 ∧ i = 9)) : (fdX m k v1 v2 v3 v4 v5).1 a i = m.1 a i := by
  unfold fdX
  rw [apX_o h1 h2, apX_o h1 h2, apX_o h1 h2, apX_o h1 h2, apX_o h1 h2]
theorem fdY_o {m : yM} {k : Nat} {v1 v2 v3 v4 v5 : Int32} {a i : Nat} (h1 : a ≠ 59) (h2 : ¬ (a = 58 ∧ i = 2)) (h3 : ¬ (a = 58 ∧ i = 0)) : (fdY m k v1 v2 v3 v4 v5).1 a i = m.1 a i := by
  unfold fdY
  rw [apY_o h1 h2, apY_o h1 h2, apY_o h1 h2, apY_o h1 h2, apY_o h1 h2, y_si_at, if_neg h3]
theorem Sm.fd {m : yM} {k : Nat} {v1 v2 v3 v4 v5 : Int32} : Sm m (fdY (fdX m k v1 v2 v3 v4 v5) k v1 v2 v3 v4 v5) := by
  refine ⟨fun a i h1 h2 h3 h4 => ?_, rfl⟩
  rw [fdY_o h2 (fun z => h4 ⟨z.1, Or.inr z.2⟩) (fun z => h4 ⟨z.1, Or.inl z.2⟩), fdX_o h1 h3]
theorem fd_rel {m M : yM} {k : Nat} {v1 v2 v3 v4 v5 : Int32} (h : ∀ i, i < k → m.1 1 i = M.1 59 i) : ∀ i, i < k + 20 → (fdX m k v1 v2 v3 v4 v5).1 1 i = (fdY M k v1 v2 v3 v4 v5).1 59 i := by
  have h0 : ∀ i, i < k → m.1 1 i = (y_si M 58 0 0).1 59 i := fun i hi => by
    rw [y_si_at, if_neg (by omega)]
    exact h i hi
  intro i hi
  unfold fdX fdY
  exact ap_rel (ap_rel (ap_rel (ap_rel (ap_rel h0)))) i (by omega)
theorem fdX_n {m : yM} {k : Nat} {v1 v2 v3 v4 v5 : Int32} (h : m.1 0 9 = nI k) : (fdX m k v1 v2 v3 v4 v5).1 0 9 = nI (k + 20) := by
  rw [show k + 20 = k + 4 + 4 + 4 + 4 + 4 by omega]
  unfold fdX
  exact apX_n (apX_n (apX_n (apX_n (apX_n h))))
theorem fdY_n {m : yM} {k : Nat} {v1 v2 v3 v4 v5 : Int32} (h : m.1 58 2 = nI k) : (fdY m k v1 v2 v3 v4 v5).1 58 2 = nI (k + 20) := by
  rw [show k + 20 = k + 4 + 4 + 4 + 4 + 4 by omega]
  unfold fdY
  exact apY_n (apY_n (apY_n (apY_n (apY_n (by rw [y_si_at, if_neg (by decide)]; exact h)))))
/-- the invariant of the calls, Ro being what has nothing to do with the text -/
def InT (Ro : yM → Prop) (m : yM) : Prop := (∃ k, Rt m k) ∧ Ro m
def ClT (Ro : yM → Prop) : Prop := ∀ m m', Sm m m' → Ro m → Ro m'
theorem op_clear (xs : List Int32) (D : Nat) {Ro : yM → Prop} (hS : ClT Ro) : opOk xs D (InT Ro) (InT Ro) 14 265 [] := by
  rintro m ⟨⟨k, h1, h2, h3, h4⟩, ho⟩
  refine yC.mono (Nat.le_refl _) ?_ (c14 xs D m)
  rintro r m1 ⟨rfl, rfl⟩
  refine ⟨_, rfl, yC.mono (Nat.le_refl _) ?_ (c265 xs D _)⟩
  rintro r2 m2 ⟨rfl, rfl⟩
  refine ⟨?_, ⟨0, rfl, rfl, Nat.zero_le _, fun i hi => absurd hi (Nat.not_lt_zero _)⟩, ?_⟩
  · show some (Value.int (m.1 58 2)) = some (Value.int (m.1 0 9))
    rw [h1, h2]
  · exact hS m _ (((Sm.si (by decide)).tr (Sm.si (by decide))).tr (Sm.si (by decide))) ho
theorem op_end (xs : List Int32) (D : Nat) {Ro : yM → Prop} (hS : ClT Ro) (n : Int32) : opOk xs D (InT Ro) (InT Ro) 17 268 [.int n] := by
  rintro m ⟨⟨k, h1, h2, h3, h4⟩, ho⟩
  refine yC.mono (Nat.le_refl _) ?_ (c17 xs D m n)
  intro r m1 hq
  by_cases hc : n < 0 ∨ 20 < n ∨ ¬ (20 : Int32) ≤ m.1 0 9
  · rw [if_pos hc] at hq
    obtain ⟨rfl, e1⟩ := hq
    refine ⟨_, rfl, yC.mono (Nat.le_refl _) ?_ (c268 xs D m1 n)⟩
    rw [e1]
    intro r2 m2 hq2
    rw [if_pos (by rw [h2, ← h1]; exact hc)] at hq2
    obtain ⟨rfl, rfl⟩ := hq2
    exact ⟨rfl, ⟨k, h1, h2, h3, h4⟩, hS m _ (Sm.si (by decide)) ho⟩
  · rw [if_neg hc] at hq
    obtain ⟨rfl, e1⟩ := hq
    refine ⟨_, rfl, yC.mono (Nat.le_refl _) ?_ (c268 xs D m1 n)⟩
    rw [e1]
    intro r2 m2 hq2
    rw [if_neg (by show ¬ (n < 0 ∨ 20 < n ∨ ¬ (20 : Int32) ≤ m.1 58 2); rw [h2, ← h1]; exact hc)] at hq2
    obtain ⟨rfl, rfl⟩ := hq2
    have c1 : ¬ n < 0 := fun z => hc (Or.inl z)
    have c2 : ¬ 20 < n := fun z => hc (Or.inr (Or.inl z))
    have c3 : (20 : Int32) ≤ m.1 0 9 := Classical.not_not.mp (fun z => hc (Or.inr (Or.inr z)))
    obtain ⟨j, hj, rfl⟩ := nI_of2 (M := 20) (n := 20) rfl c1 (Int32.not_lt.mp c2)
    rw [h1] at c3
    have hk : 20 ≤ k := (nI_leI (a := 20) (by decide) (by omega)).mp c3
    have e2 : m.1 0 9 - 20 + nI j = nI (k - 20 + j) := by
      rw [h1, show nI k - (20 : Int32) = nI (k - 20) from pk_sub hk, nI_add]
    have e3 : m.1 58 2 - 20 + nI j = nI (k - 20 + j) := by
      rw [h2, show nI k - (20 : Int32) = nI (k - 20) from pk_sub hk, nI_add]
    refine ⟨?_, ⟨k - 20 + j, ?_, ?_, by omega, ?_⟩, ?_⟩
    · show some (Value.int (m.1 58 2 - 20 + nI j)) = some (Value.int (m.1 0 9 - 20 + nI j))
      rw [e2, e3]
    · exact e2
    · exact e3
    · intro i hi
      exact h4 i (by omega)
    · exact hS m _ (((Sm.si (by decide)).tr (Sm.si (by decide))).tr (Sm.si (by decide))) ho
theorem op_feed (xs : List Int32) (D : Nat) {Ro : yM → Prop} (hS : ClT Ro) (a b c d e : Int32) : opOk xs (D + 1) (InT Ro) (InT Ro) 15 266 [.int a, .int b, .int c, .int d, .int e] := by
  rintro m ⟨⟨k, h1, h2, h3, h4⟩, ho⟩
  refine yC.mono (Nat.le_refl _) ?_ (c15 xs D m a b c d e k h1 h3)
  intro r m1 hq
  by_cases hc : 8172 < k
  · rw [if_pos hc] at hq
    obtain ⟨rfl, e1⟩ := hq
    refine ⟨_, rfl, ?_⟩
    rw [e1]
    refine yC.mono (Nat.le_refl _) ?_ (c266 xs D m a b c d e k h2 h3)
    intro r2 m2 hq2
    rw [if_pos hc] at hq2
    obtain ⟨rfl, rfl⟩ := hq2
    exact ⟨rfl, ⟨k, h1, h2, h3, h4⟩, hS m _ (Sm.si (by decide)) ho⟩
  · rw [if_neg hc] at hq
    obtain ⟨rfl, e1⟩ := hq
    refine ⟨_, rfl, ?_⟩
    rw [e1]
    have h2' : (fdX m k a b c d e).1 58 2 = nI k := by rw [fdX_o (by decide) (by decide)]; exact h2
    refine yC.mono (Nat.le_refl _) ?_ (c266 xs D (fdX m k a b c d e) a b c d e k h2' h3)
    intro r2 m2 hq2
    rw [if_neg hc] at hq2
    obtain ⟨rfl, rfl⟩ := hq2
    exact ⟨rfl, ⟨k + 20, by rw [fdY_o (by decide) (by decide) (by decide)]; exact fdX_n h1, fdY_n h2', by omega, fun i hi => by rw [fdY_o (by decide) (by omega) (by omega)]; exact fd_rel (fun j hj => by rw [fdX_o (by decide) (by omega)]; exact h4 j hj) i hi⟩, hS m _ Sm.fd ho⟩
