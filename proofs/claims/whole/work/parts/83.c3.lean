/-! THE MACHINE: the reference's elements -/
theorem f64 (a b : Int32) : (a.toInt64 - b.toInt64).toInt = a.toInt - b.toInt := by
  have a1 := Int32.le_toInt a
  have a2 := Int32.toInt_lt a
  have b1 := Int32.le_toInt b
  have b2 := Int32.toInt_lt b
  rw [Int64.toInt_sub, i64_r, i64_r]
  rw [Int.bmod_eq_of_le (by omega) (by omega)]
theorem elI_f {i lo : Int32} (h : 0 ≤ i.toInt - lo.toInt) (h2 : i.toInt - lo.toInt < 2 ^ 31) : (i.toInt64 - lo.toInt64).toInt32 = nI (i.toInt - lo.toInt).toNat ∧ i - lo = nI (i.toInt - lo.toInt).toNat := by
  have e : ((i.toInt - lo.toInt).toNat : Int) = i.toInt - lo.toInt := Int.toNat_of_nonneg h
  have n := nI_toInt (n := (i.toInt - lo.toInt).toNat) (by omega)
  refine ⟨Int32.toInt_inj.mp ?_, Int32.toInt_inj.mp ?_⟩
  · rw [n, e, Int64.toInt_toInt32, f64, Int.bmod_eq_of_le (by omega) (by omega)]
  · rw [n, e, Int32.toInt_sub, Int.bmod_eq_of_le (by omega) (by omega)]
theorem elI_s {b : Nat} {x : IT} {i : Int32} {o : Option Nat} (h : elI b x i = some o) : ((0 ≤ i.toInt - x.2.2.1.toInt ∧ i.toInt - x.2.2.1.toInt < x.2.2.2.1.toInt) ↔ ∃ c, o = some c) ∧ ∀ c, o = some c → (nI b + x.2.1) + nI (i.toInt - x.2.2.1.toInt).toNat = nI c ∧ c < 8192 := by
  unfold elI at h
  split at h
  · rename_i q
    split at h
    · rename_i q2
      have e := Option.some.inj h
      obtain ⟨k, hk, ek⟩ := nI_of (x := x.2.1) (Int32.not_lt.mpr q2.1)
      refine ⟨⟨fun _ => ⟨_, e.symm⟩, fun _ => q⟩, fun c hc => ?_⟩
      rw [hc] at e
      have e := Option.some.inj e
      rw [ek] at e q2
      rw [nI_clamp hk] at e q2
      rw [ek, nI_add, nI_add, e]
      exact ⟨rfl, by rw [← e]; exact q2.2⟩
    · cases h
  · rename_i q
    have e := Option.some.inj h
    refine ⟨⟨fun z => absurd z q, fun ⟨c, z⟩ => by rw [z] at e; cases e⟩, fun c z => by rw [z] at e; cases e⟩
/-- what one of the reference's instructions leaves -/
def riQ (m : yM) (n : Nat) (M : Nat → Int32) (X : PR) (r : Option Value) (m' : yM) : Prop := KX m m' ∧ match X with
  | .inl (S', M') => r = some (.int 0) ∧ RSt m' S' M' n
  | .inr c => r = some (.int c) ∧ m'.1 98 = M ∧ m'.1 58 65 = nI n
theorem r398 (xs : List Int32) (d : Nat) {m : yM} {S : List Int32} {M : Nat → Int32} {n b l : Nat} {x : IT} {X : PR} (hl : l < 3001) (h89 : m.1 89 l = x.1) (h90 : m.1 90 l = x.2.1) (h91 : m.1 91 l = x.2.2.1) (h92 : m.1 92 l = x.2.2.2.1) (h : RSt m S M n) (hX : (x.1 = 3 ∧ opTake b x M S = some X) ∨ (x.1 = 4 ∧ opPut b x M S = some X)) : yC (xg xs) (d + 1) 398 [.ref 58, .int (nI l), .int (nI b)] m (riQ m n M X) := by
  have xl : x_in (nI l) 3001 = true := x_in_nI hl (by decide)
  have el : (nI l).toNatClampNeg = l := nI_clamp (by omega)
  -- behind the value
  have s18 : ∀ (v i : Int32) (S' : List Int32) (m1 : yM) (o : Option Nat), elI b x i = some o → KX m m1 → RSt m1 (i :: S') M n → ((x.1 = 3 ∧ X = match o with | some c => .inl (M c :: S', M) | none => .inr (-4)) ∨ (x.1 = 4 ∧ X = match o with | some c => .inl (S', upd M c v) | none => .inr (-4))) → yP (xg xs) (d + 1) 398 18 [(0, .ref 58), (1, .int (nI l)), (2, .int (nI b))] [.int v] m1 (riQ m n M X) := by
    intro v i S' m1 o ho k1 r1 hx
    refine w398_18 xs d _ _ _ m1 _ (y_pop (r397 xs d r1) (Nat.le_refl _) (fun m2 q => ?_))
    obtain ⟨k2, r2⟩ := q
    have k := k1.tr k2
    have f89 : m2.1 89 l = x.1 := (k.2 89 l (by omega) (by omega) (by omega)).trans h89
    have f90 : m2.1 90 l = x.2.1 := (k.2 90 l (by omega) (by omega) (by omega)).trans h90
    have f91 : m2.1 91 l = x.2.2.1 := (k.2 91 l (by omega) (by omega) (by omega)).trans h91
    have f92 : m2.1 92 l = x.2.2.2.1 := (k.2 92 l (by omega) (by omega) (by omega)).trans h92
    rw [el, f89, f90, f91, f92]
    obtain ⟨e1, e2⟩ := elI_s ho
    have z64 : (0 : Int64).toInt = 0 := rfl
    have c1 : lg_cmp (i.toInt64 - x.2.2.1.toInt64) 0 < 0 ↔ i.toInt - x.2.2.1.toInt < 0 := by rw [lg_cmp_lt, Int64.lt_iff_toInt_lt, f64, z64]
    have c2 : lg_cmp (i.toInt64 - x.2.2.1.toInt64) x.2.2.2.1.toInt64 < 0 ↔ i.toInt - x.2.2.1.toInt < x.2.2.2.1.toInt := by rw [lg_cmp_lt, Int64.lt_iff_toInt_lt, f64, i64_r]
    have bad : o = none → riQ m n M X (some (.int (-4))) m2 := by
      intro z
      have eX : X = .inr (-4) := by
        rcases hx with ⟨-, q⟩ | ⟨-, q⟩ <;> (rw [q, z])
      rw [eX]
      exact ⟨k, rfl, r2.1, r2.2.2.2.2⟩
    have hn : (¬ ∃ c, o = some c) → o = none := fun z => by
      cases o with
      | none => rfl
      | some c => exact absurd ⟨c, rfl⟩ z
    refine ⟨xl, fun u => bad (hn (fun z => ?_)), fun u => ⟨xl, fun w => ⟨xl, xl, ?_⟩, fun w => bad (hn (fun z => ?_))⟩⟩
    · have := (e1.mpr z).1
      have := c1.mp u
      omega
    · have g1 : 0 ≤ i.toInt - x.2.2.1.toInt := by
        apply Int.not_lt.mp
        exact fun z => u (c1.mpr z)
      have g2 := c2.mp w
      obtain ⟨c, rfl⟩ := e1.mp ⟨g1, g2⟩
      obtain ⟨a1, a2⟩ := e2 c rfl
      have lt := Int32.toInt_lt x.2.2.2.1
      rw [(elI_f g1 (by omega)).1, a1, nI_clamp (by omega)]
      have xc : x_in (nI c) 8192 = true := x_in_nI a2 (by decide)
      refine ⟨fun z => ⟨xc, ?_⟩, fun z => ⟨xc, ?_⟩⟩
      · have eX : X = .inl (M c :: S', M) := by
          rcases hx with ⟨-, q⟩ | ⟨q4, -⟩
          · exact q
          · exact absurd q4 z
        have sl : S'.length + 1 ≤ 1024 := by have := r1.2.2.1; simpa using this
        refine y_nx (r396 xs d r2 (by omega) _) (Nat.le_refl _) (fun m3 q3 => ?_)
        rw [eX]
        refine ⟨k.tr q3.1, rfl, ?_⟩
        rw [← r2.1]
        rw [← r2.1] at q3
        exact q3.2
      · have eX : X = .inl (S', upd M c v) := by
          rcases hx with ⟨q3, -⟩ | ⟨-, q⟩
          · rw [z] at q3; exact absurd q3 (by decide)
          · exact q
        rw [eX]
        exact ⟨k.s (by omega), rfl, r2.ce c v⟩
    · have := (e1.mpr z).2
      exact w (c2.mpr this)
  refine w398_0 xs d _ _ m _ ?_
  rw [el, h89]
  rcases hX with ⟨x3, hX⟩ | ⟨x4, hX⟩
  · refine ⟨xl, fun _ => ?_, fun z => by rw [x3] at z; exact absurd z (by decide)⟩
    unfold opTake at hX
    split at hX
    · rename_i i S'
      cases ho : elI b x i with
      | none => rw [ho] at hX; cases hX
      | some o =>
        rw [ho] at hX
        refine s18 0 i S' m o ho (KX.re m) h (Or.inl ⟨x3, ?_⟩)
        cases o with
        | none => exact (Option.some.inj hX).symm
        | some c => exact (Option.some.inj hX).symm
    · cases hX
  · refine ⟨xl, fun z => absurd x4 z, fun _ => ?_⟩
    unfold opPut at hX
    split at hX
    · rename_i v i S'
      refine y_pop (r397 xs d h) (Nat.le_refl _) (fun m1 q => ?_)
      cases ho : elI b x i with
      | none => rw [ho] at hX; cases hX
      | some o =>
        rw [ho] at hX
        refine s18 v i S' m1 o ho q.1 q.2 (Or.inr ⟨x4, ?_⟩)
        cases o with
        | none => exact (Option.some.inj hX).symm
        | some c => exact (Option.some.inj hX).symm
    · cases hX
