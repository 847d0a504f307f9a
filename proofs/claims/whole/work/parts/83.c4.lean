/-! THE MACHINE: the reference's run of a unit -/
def RCd (Us : Nat → List IT) (bs : Nat → Option Nat) (U : Nat) (st : Nat → Nat) (m : yM) : Prop := U ≤ 16 ∧ (∀ u, u < U → st (u + 1) = st u + (Us u).length) ∧ (∀ u, u ≤ U → st u ≤ 3000 ∧ m.1 93 u = nI (st u)) ∧ (∀ u, u < U → ∀ i x, (Us u)[i]? = some x → m.1 89 (st u + i) = x.1 ∧ m.1 90 (st u + i) = x.2.1 ∧ m.1 91 (st u + i) = x.2.2.1 ∧ m.1 92 (st u + i) = x.2.2.2.1) ∧ ∀ g q, bs g = some q → g < 400 ∧ m.1 74 g = nI q ∧ q ≤ 8192
theorem RCd.k {Us : Nat → List IT} {bs : Nat → Option Nat} {U : Nat} {st : Nat → Nat} {m m' : yM} (h : RCd Us bs U st m) (k : KX m m') : RCd Us bs U st m' := by
  obtain ⟨h1, h2, h3, h4, h5⟩ := h
  have g : ∀ a i, 73 < a → a < 98 → m'.1 a i = m.1 a i := fun a i x y => k.2 a i (by omega) (by omega) (by omega)
  refine ⟨h1, h2, fun u hu => ⟨(h3 u hu).1, by rw [g 93 _ (by omega) (by omega)]; exact (h3 u hu).2⟩, fun u hu i x hx => ?_, fun q p e => ⟨(h5 q p e).1, by rw [g 74 _ (by omega) (by omega)]; exact (h5 q p e).2.1, (h5 q p e).2.2⟩⟩
  rw [g 89 _ (by omega) (by omega), g 90 _ (by omega) (by omega), g 91 _ (by omega) (by omega), g 92 _ (by omega) (by omega)]
  exact h4 u hu i x hx
def reQ (m0 : yM) (R : XR) (r : Option Value) (m' : yM) : Prop := KX m0 m' ∧ match R with
  | .inl (S', M', n') => r = some (.int 0) ∧ RSt m' S' M' n'
  | .inr (c, M', n') => r = some (.int c) ∧ ¬ c = 0 ∧ m'.1 98 = M' ∧ m'.1 58 65 = nI n'
theorem fnI_s {bs : Nat → Option Nat} {x : IT} {c : Nat} (h : fnI bs x = some c) : ∃ g q, x.2.1 = nI g ∧ g < 2 ^ 31 ∧ bs g = some q ∧ celI q x.2.2.1 = some c := by
  unfold fnI at h
  split at h
  · rename_i q hq
    split at h
    · rename_i p
      obtain ⟨k, hk, ek⟩ := nI_of (x := x.2.1) (Int32.not_lt.mpr p)
      rw [ek, nI_clamp hk] at hq
      exact ⟨k, q, ek, hk, hq, h⟩
    · cases h
  · cases h
theorem opTake_c {b : Nat} {x : IT} {M : Nat → Int32} {S : List Int32} {c : Int32} (h : opTake b x M S = some (.inr c)) : ¬ c = 0 := by
  unfold opTake at h
  split at h
  · split at h
    · cases h
    · have e := Sum.inr.inj (Option.some.inj h)
      rw [← e]
      decide
    · cases h
  · cases h
theorem opPut_c {b : Nat} {x : IT} {M : Nat → Int32} {S : List Int32} {c : Int32} (h : opPut b x M S = some (.inr c)) : ¬ c = 0 := by
  unfold opPut at h
  split at h
  · split at h
    · cases h
    · have e := Sum.inr.inj (Option.some.inj h)
      rw [← e]
      decide
    · cases h
  · cases h
abbrev noC (k : Int32) : Prop := ¬ (k = 10 ∨ k = 14) ∧ ¬ k = 11 ∧ ¬ k = 13 ∧ ¬ (k = 15 ∨ k = 16) ∧ ¬ k = 18
theorem c395 (xs : List Int32) (D : Nat) {Us : Nat → List IT} {bs : Nat → Option Nat} {U : Nat} {st : Nat → Nat} {m0 : yM} {now : Int32} (hc0 : RCd Us bs U st m0) (hnow : m0.1 58 64 = now) : ∀ (f u b i : Nat) (S : List Int32) (M : Nat → Int32) (n : Nat) (R : XR) (m : yM), exU Us bs now f u b i S M n = some R → u < U → b ≤ 16384 → i ≤ 3001 → KX m0 m → RSt m S M n → yP (xg xs) (D + u + 4) 395 20 [(0, .ref 58), (1, .int (nI u)), (2, .int (nI b)), (3, .int (nI (st (u + 1)))), (4, .int (nI (st u + i))), (5, .int 0)] [] m (reQ m0 R) := by
  have U16 := hc0.1
  intro f
  induction f with
  | zero => intro u b i S M n R m h; cases h
  | succ f ih =>
    intro u b i S M n R m h hu hb hi hk hs
    have hc := hc0.k hk
    obtain ⟨-, c2, c3, c4, c5⟩ := hc
    have su := c3 u (by omega)
    have su1 := c3 (u + 1) (by omega)
    have len := c2 u hu
    unfold exU at h
    cases hx : (Us u)[i]? with
    | none =>
      rw [hx] at h
      dsimp only at h
      have ge : (Us u).length ≤ i := List.getElem?_eq_none_iff.mp hx
      have fin : reQ m0 R (some (.int 0)) m := by rw [← Option.some.inj h]; exact ⟨hk, rfl, hs⟩
      refine w395_20 xs (D + u + 3) _ _ _ _ _ m _ ⟨fun _ => fin, fun z => absurd (nI_le (by omega) (by omega)) z⟩
    | some x =>
      rw [hx] at h
      dsimp only at h
      have lt : i < (Us u).length := (List.getElem?_eq_some_iff.mp hx).1
      obtain ⟨d89, d90, d91, d92⟩ := c4 u hu i x hx
      have el : (nI (st u + i)).toNatClampNeg = st u + i := nI_clamp (by omega)
      have xl : x_in (nI (st u + i)) 3001 = true := x_in_nI (by omega) (by decide)
      have eu : (nI u).toNatClampNeg = u := nI_clamp (by omega)
      have xu : x_in (nI u) 401 = true := x_in_nI (by omega) (by decide)
      have nx : nI (st u + i) + 1 = nI (st u + (i + 1)) := nI_1 _
      have s65 : m.1 58 65 + 1 = nI (n + 1) := by rw [hs.2.2.2.2, nI_1]
      have hs1 := hs.st (n + 1)
      have hk1 : KX m0 (y_si m 58 65 (nI (n + 1))) := hk.s (by omega)
      have e98 := hs.1
      -- on
      have go : ∀ (i' : Nat) (S' : List Int32) (M' : Nat → Int32) (n' : Nat) (m1 : yM), exU Us bs now f u b i' S' M' n' = some R → i' ≤ 3001 → KX m0 m1 → RSt m1 S' M' n' → yP (xg xs) (D + u + 4) 395 561 [(0, .ref 58), (1, .int (nI u)), (2, .int (nI b)), (3, .int (nI (st (u + 1)))), (4, .int (nI (st u + i'))), (5, .int 0)] [] m1 (reQ m0 R) := fun i' S' M' n' m1 e hi' k1 s1 => w395_561 xs (D + u + 3) _ _ _ _ _ m1 _ (ih u b i' S' M' n' R m1 e hu hb hi' k1 s1)
      have flt : ∀ (c : Int32) (l4 : Int32) (M' : Nat → Int32) (n' : Nat) (m1 : yM), R = .inr (c, M', n') → ¬ c = 0 → KX m0 m1 → m1.1 98 = M' → m1.1 58 65 = nI n' → yP (xg xs) (D + u + 4) 395 561 [(0, .ref 58), (1, .int (nI u)), (2, .int (nI b)), (3, .int (nI (st (u + 1)))), (4, .int l4), (5, .int c)] [] m1 (reQ m0 R) := by
        intro c l4 M' n' m1 e c0 k1 e1 e2
        have fin : reQ m0 R (some (.int c)) m1 := by rw [e]; exact ⟨k1, rfl, c0, e1, e2⟩
        exact w395_561 xs (D + u + 3) _ _ _ _ _ m1 _ (w395_20 xs (D + u + 3) _ _ _ _ _ m1 _ ⟨fun _ => fin, fun _ => ⟨fun _ => fin, fun z => absurd z c0⟩⟩)
      have ord : noC x.1 → (match oxP b bs now x S M with
          | some (.inl r) => exU Us bs now f u b (i + 1) r.1 r.2 (n + 1)
          | some (.inr c) => some (.inr (c, M, n + 1))
          | none => none) = some R := by
        intro q
        rw [if_neg q.1, if_neg q.2.1, if_neg q.2.2.1, if_neg q.2.2.2.1, if_neg q.2.2.2.2] at h
        exact h
      -- an instruction with its answer known
      have o1 : ∀ {S' : List Int32} {M' : Nat → Int32}, noC x.1 → oxP b bs now x S M = some (.inl (S', M')) → ∀ m1, KX m0 m1 → RSt m1 S' M' (n + 1) → yP (xg xs) (D + u + 4) 395 561 [(0, .ref 58), (1, .int (nI u)), (2, .int (nI b)), (3, .int (nI (st (u + 1)))), (4, .int (nI (st u + (i + 1)))), (5, .int 0)] [] m1 (reQ m0 R) := by
        intro S' M' q eo m1 k1 s1
        have h := ord q
        rw [eo] at h
        exact go (i + 1) S' M' (n + 1) m1 h (by omega) k1 s1
      have o2 : ∀ {c : Int32}, noC x.1 → oxP b bs now x S M = some (.inr c) → R = .inr (c, M, n + 1) := by
        intro c q eo
        have h := ord q
        rw [eo] at h
        exact (Option.some.inj h).symm
      have o3 : noC x.1 → ∃ X, oxP b bs now x S M = some X := by
        intro q
        have h := ord q
        cases e : oxP b bs now x S M with
        | none => rw [e] at h; cases h
        | some X => exact ⟨X, rfl⟩
      have e93 : ∀ m1, KX m0 m1 → m1.1 93 u = nI (st u) := fun m1 k1 => ((hc0.k k1).2.2.1 u (by omega)).2
      have sub : ∀ (q : Nat) (a : Int32), x.1 = 15 ∨ x.1 = 16 → (if x.1 = 15 then (if 0 ≤ x.2.2.1 then some (b + x.2.2.1.toNatClampNeg) else none) else bs x.2.1.toNatClampNeg) = some q → a = nI q → yC (xg xs) (D + u + 3) 395 [.ref 58, .int x.2.1, .int a] (y_si m 58 65 (nI (n + 1))) (fun r m1 => ∃ c, r = some (Value.int c) ∧ yP (xg xs) (D + u + 4) 395 561 [(0, .ref 58), (1, .int (nI u)), (2, .int (nI b)), (3, .int (nI (st (u + 1)))), (4, .int (nI (st u + (i + 1)))), (5, .int c)] [] m1 (reQ m0 R)) := by
        intro q a hq eq ea
        have n1 : ¬ (x.1 = 10 ∨ x.1 = 14) := by rcases hq with w | w <;> rw [w] <;> decide
        have n2 : ¬ x.1 = 11 := by rcases hq with w | w <;> rw [w] <;> decide
        have n3 : ¬ x.1 = 13 := by rcases hq with w | w <;> rw [w] <;> decide
        rw [if_neg n1, if_neg n2, if_neg n3, if_pos hq, eq] at h
        dsimp only at h
        split at h
        · rename_i p
          obtain ⟨p1, p2, p3⟩ := p
          obtain ⟨v, hv, ev⟩ := nI_of (x := x.2.1) (Int32.not_lt.mpr p1)
          rw [ev, nI_clamp hv] at h p2
          rw [ev, ea]
          cases hR : exU Us bs now f v q 0 S M (n + 1) with
          | none => rw [hR] at h; cases h
          | some R1 =>
            rw [hR] at h
            have k := ih v q 0 S M (n + 1) R1 _ hR (by omega) (by omega) (by omega) hk1 hs1
            have cv := (hc0.k hk1).2.2.1
            have call : yC (xg xs) (D + v + 4) 395 [.ref 58, .int (nI v), .int (nI q)] (y_si m 58 65 (nI (n + 1))) (reQ m0 R1) := by
              refine w395_0 xs (D + v + 3) _ _ _ _ ?_
              rw [nI_1, nI_clamp (by omega), nI_clamp hv, (cv (v + 1) (by omega)).2, (cv v (by omega)).2]
              exact ⟨x_in_nI (by omega) (by decide), x_in_nI (by omega) (by decide), k⟩
            refine yC.mono (by omega) (fun r m1 w => ?_) call
            obtain ⟨w1, w2⟩ := w
            rcases R1 with ⟨S', M', n'⟩ | ⟨c, M', n'⟩
            · exact ⟨0, w2.1, go (i + 1) S' M' n' m1 h (by omega) w1 w2.2⟩
            · exact ⟨c, w2.1, flt c _ M' n' m1 (Option.some.inj h).symm w2.2.1 w1 w2.2.2.1 w2.2.2.2⟩
        · cases h
      refine w395_20 xs (D + u + 3) _ _ _ _ _ m _ ⟨fun z => absurd ((nI_leI (by omega) (by omega)).mp z) (by omega), fun _ => ⟨fun z => absurd rfl z, fun _ => ?_⟩⟩
      rw [el, d89, d90, d91, s65, nx, e98]
      refine ⟨xl, xl, fun z => ?_, fun z => ?_, fun z => ?_, fun z => ?_, fun z => ?_, fun z => ?_, fun z => ?_, fun z => ?_, fun z => ?_, fun z => ?_, fun z => ?_, fun z => ?_, fun z => ?_, fun z => ?_, fun z => ?_, fun z => ?_, fun z => ?_, fun z => ?_, fun z0 z1 z2 z3 z4 z5 z6 z7 z8 z9 z10 z11 z12 z13 z14 z15 z16 z17 => ?_⟩
      · -- push
        have q : noC x.1 := by rw [z]; decide
        have eo : oxP b bs now x S M = if S.length < 1024 then some (.inl (x.2.1 :: S, M)) else none := by unfold oxP; rw [if_pos z]
        obtain ⟨X, eX⟩ := o3 q
        rw [eo] at eX
        split at eX
        · rename_i hl
          rw [if_pos hl] at eo
          exact y_nx (r396 xs _ hs1 hl _) (Nat.le_refl _) (fun m1 w => o1 q eo m1 (hk1.tr w.1) w.2)
        · cases eX
      · -- load
        have q : noC x.1 := by rw [z]; decide
        have eo : oxP b bs now x S M = opLd (celI b x.2.1) M S := by unfold oxP; rw [z]; rfl
        obtain ⟨X, eX⟩ := o3 q
        rw [eo] at eX
        unfold opLd at eX eo
        split at eX
        · rename_i c hc
          obtain ⟨g1, g2, g3, g4⟩ := celI_s hc
          rw [hc] at eo
          dsimp only at eo
          split at eX
          · rename_i hl
            rw [if_pos hl] at eo
            rw [g1, g4]
            exact ⟨g3, y_nx (r396 xs _ hs1 hl _) (Nat.le_refl _) (fun m1 w => o1 q eo m1 (hk1.tr w.1) w.2)⟩
          · cases eX
        · cases eX
      · -- store
        have q : noC x.1 := by rw [z]; decide
        have eo : oxP b bs now x S M = opSto (celI b x.2.1) M S := by unfold oxP; rw [z]; rfl
        obtain ⟨X, eX⟩ := o3 q
        rw [eo] at eX
        unfold opSto at eX
        split at eX
        · rename_i v S'
          split at eX
          · rename_i c hc
            obtain ⟨g1, g2, g3, g4⟩ := celI_s hc
            rw [hc] at eo
            rw [g1, g4]
            exact y_pop (r397 xs _ hs1) (Nat.le_refl _) (fun m1 w => ⟨g3, o1 q eo _ ((hk1.tr w.1).s (by omega)) (w.2.ce c v)⟩)
          · cases eX
        · cases eX
      · -- take
        have q : noC x.1 := by rw [z]; decide
        have eo : oxP b bs now x S M = opTake b x M S := by unfold oxP; rw [z]; rfl
        obtain ⟨X, eX⟩ := o3 q
        have k := r398 xs (D + u + 2) (b := b) (l := st u + i) (x := x) (X := X) (by omega) (by rw [y_si_at, if_neg (by omega)]; exact d89) (by rw [y_si_at, if_neg (by omega)]; exact d90) (by rw [y_si_at, if_neg (by omega)]; exact d91) (by rw [y_si_at, if_neg (by omega)]; exact d92) hs1 (Or.inl ⟨z, by rw [← eo]; exact eX⟩)
        refine yC.mono (Nat.le_refl _) (fun r m1 w => ?_) k
        obtain ⟨w1, w2⟩ := w
        rcases X with ⟨S', M'⟩ | c
        · exact ⟨0, w2.1, o1 q eX m1 (hk1.tr w1) w2.2⟩
        · exact ⟨c, w2.1, flt c _ M (n + 1) m1 (o2 q eX) (opTake_c (by rw [← eo]; exact eX)) (hk1.tr w1) w2.2.1 w2.2.2⟩
      · -- put
        have q : noC x.1 := by rw [z]; decide
        have eo : oxP b bs now x S M = opPut b x M S := by unfold oxP; rw [z]; rfl
        obtain ⟨X, eX⟩ := o3 q
        have k := r398 xs (D + u + 2) (b := b) (l := st u + i) (x := x) (X := X) (by omega) (by rw [y_si_at, if_neg (by omega)]; exact d89) (by rw [y_si_at, if_neg (by omega)]; exact d90) (by rw [y_si_at, if_neg (by omega)]; exact d91) (by rw [y_si_at, if_neg (by omega)]; exact d92) hs1 (Or.inr ⟨z, by rw [← eo]; exact eX⟩)
        refine yC.mono (Nat.le_refl _) (fun r m1 w => ?_) k
        obtain ⟨w1, w2⟩ := w
        rcases X with ⟨S', M'⟩ | c
        · exact ⟨0, w2.1, o1 q eX m1 (hk1.tr w1) w2.2⟩
        · exact ⟨c, w2.1, flt c _ M (n + 1) m1 (o2 q eX) (opPut_c (by rw [← eo]; exact eX)) (hk1.tr w1) w2.2.1 w2.2.2⟩
      · -- read
        have q : noC x.1 := by rw [z]; decide
        have eo : oxP b bs now x S M = opLd (fnI bs x) M S := by unfold oxP; rw [z]; rfl
        obtain ⟨X, eX⟩ := o3 q
        rw [eo] at eX
        unfold opLd at eX eo
        split at eX
        · rename_i c hc
          obtain ⟨g, q', f1, f2, f3, f4⟩ := fnI_s hc
          obtain ⟨p1, p2, p3⟩ := c5 g q' f3
          obtain ⟨g1, g2, g3, g4⟩ := celI_s f4
          rw [hc] at eo
          dsimp only at eo
          split at eX
          · rename_i hl
            rw [if_pos hl] at eo
            rw [f1, nI_clamp f2, p2, g1, g4]
            exact ⟨x_in_nI p1 (by decide), xl, g3, y_nx (r396 xs _ hs1 hl _) (Nat.le_refl _) (fun m1 w => o1 q eo m1 (hk1.tr w.1) w.2)⟩
          · cases eX
        · cases eX
      · -- write
        have q : noC x.1 := by rw [z]; decide
        have eo : oxP b bs now x S M = opSto (fnI bs x) M S := by unfold oxP; rw [z]; rfl
        obtain ⟨X, eX⟩ := o3 q
        rw [eo] at eX
        unfold opSto at eX
        split at eX
        · rename_i v S'
          split at eX
          · rename_i c hc
            obtain ⟨g, q', f1, f2, f3, f4⟩ := fnI_s hc
            obtain ⟨p1, p2, p3⟩ := c5 g q' f3
            obtain ⟨g1, g2, g3, g4⟩ := celI_s f4
            rw [hc] at eo
            rw [f1, nI_clamp f2, p2, g1, g4]
            exact ⟨x_in_nI p1 (by decide), xl, y_pop (r397 xs _ hs1) (Nat.le_refl _) (fun m1 w => ⟨g3, o1 q eo _ ((hk1.tr w.1).s (by omega)) (w.2.ce c v)⟩)⟩
          · cases eX
        · cases eX
      · -- two
        have q : noC x.1 := by rw [z]; decide
        have eo : oxP b bs now x S M = opTwo x M S := by unfold oxP; rw [z]; rfl
        obtain ⟨X, eX⟩ := o3 q
        rw [eo] at eX
        unfold opTwo at eX
        split at eX
        · rename_i y w S'
          have eo : oxP b bs now x (y :: w :: S') M = if 0 ≤ x.2.1 ∧ x.2.1 ≤ 24 then (if divO x.2.1 ∧ y = 0 then some (.inr (-3)) else some (.inl (two_ x.2.1 w y :: S', M))) else none := eo
          split at eX
          · rename_i p
            rw [if_pos p] at eo
            have sl : S'.length + 1 + 1 ≤ 1024 := by have := hs.2.2.1; simpa using this
            refine y_pop (r397 xs _ hs1) (Nat.le_refl _) (fun m1 w1 => y_pop (r397 xs _ w1.2) (Nat.le_refl _) (fun m2 w2 => ?_))
            have k2 := (hk1.tr w1.1).tr w2.1
            have t341 : ∀ (v l5 : Int32), (∀ m3, KX m0 m3 → RSt m3 (v :: S') M (n + 1) → yP (xg xs) (D + u + 4) 395 561 [(0, .ref 58), (1, .int (nI u)), (2, .int (nI b)), (3, .int (nI (st (u + 1)))), (4, .int (nI (st u + (i + 1)))), (5, .int l5)] [] m3 (reQ m0 R)) → yP (xg xs) (D + u + 4) 395 341 [(0, .ref 58), (1, .int (nI u)), (2, .int (nI b)), (3, .int (nI (st (u + 1)))), (4, .int (nI (st u + (i + 1)))), (5, .int l5)] [.int v, .ref 58] m2 (reQ m0 R) := by
              intro v l5 K
              exact w395_341 xs (D + u + 3) _ _ _ _ _ _ m2 _ (y_nx (r396 xs _ w2.2 (by omega) v) (Nat.le_refl _) (fun m3 w3 => K m3 (k2.tr w3.1) w3.2))
            have bad : divO x.2.1 ∧ y = 0 → yP (xg xs) (D + u + 4) 395 320 [(0, .ref 58), (1, .int (nI u)), (2, .int (nI b)), (3, .int (nI (st (u + 1)))), (4, .int (nI (st u + (i + 1)))), (7, .int x.2.1), (8, .int y), (9, .int w)] [.int (-3)] m2 (reQ m0 R) := by
              intro dq
              rw [if_pos dq] at eo
              refine w395_320 xs (D + u + 3) _ _ _ _ _ _ _ _ m2 _ ⟨fun _ => t341 0 (-3) (fun m3 k3 s3 => flt (-3) _ M (n + 1) m3 (o2 q eo) (by decide) k3 s3.1 s3.2.2.2.2), fun w => absurd w (by decide)⟩
            have good : ¬ (divO x.2.1 ∧ y = 0) → yP (xg xs) (D + u + 4) 395 319 [(0, .ref 58), (1, .int (nI u)), (2, .int (nI b)), (3, .int (nI (st (u + 1)))), (4, .int (nI (st u + (i + 1)))), (7, .int x.2.1), (8, .int y), (9, .int w)] [] m2 (reQ m0 R) := by
              intro dq
              rw [if_neg dq] at eo
              refine w395_319 xs (D + u + 3) _ _ _ _ _ _ _ m2 _ (w395_320 xs (D + u + 3) _ _ _ _ _ _ _ _ m2 _ ⟨fun w => absurd rfl w, fun _ => ?_⟩)
              exact y_ci (c363 xs (D + u + 2) m2 x.2.1 w y p (fun dv y0 => dq ⟨dv, y0⟩)) (by omega) (t341 _ 0 (fun m3 k3 s3 => o1 q eo m3 k3 s3))
            have t302 : ∀ s0 : Int32, (¬ s0 = 0 ↔ divO x.2.1) → yP (xg xs) (D + u + 4) 395 302 [(0, .ref 58), (1, .int (nI u)), (2, .int (nI b)), (3, .int (nI (st (u + 1)))), (4, .int (nI (st u + (i + 1)))), (7, .int x.2.1), (8, .int y), (9, .int w)] [.int s0] m2 (reQ m0 R) := by
              intro s0 e0
              refine w395_302 xs (D + u + 3) _ _ _ _ _ _ _ _ m2 _ ⟨fun v => good (fun dq => e0.mpr dq.1 v), fun v => ⟨fun y0 => good (fun dq => y0 dq.2), fun y0 => bad ⟨e0.mp v, y0⟩⟩⟩
            have t297 : divO x.2.1 → yP (xg xs) (D + u + 4) 395 297 [(0, .ref 58), (1, .int (nI u)), (2, .int (nI b)), (3, .int (nI (st (u + 1)))), (4, .int (nI (st u + (i + 1)))), (7, .int x.2.1), (8, .int y), (9, .int w)] [] m2 (reQ m0 R) := fun dq => w395_297 xs (D + u + 3) _ _ _ _ _ _ _ m2 _ (t302 1 ⟨fun _ => dq, fun _ => by decide⟩)
            exact ⟨fun a3 => t297 (Or.inl a3), fun a3 => ⟨fun a4 => t297 (Or.inr (Or.inl a4)), fun a4 => ⟨fun a8 => t297 (Or.inr (Or.inr (Or.inl a8))), fun a8 => ⟨fun a9 => t302 0 ⟨fun w => absurd rfl w, fun dq => absurd dq (fun w => w.elim a3 (fun w => w.elim a4 (fun w => w.elim a8 a9)))⟩, fun a9 => t297 (Or.inr (Or.inr (Or.inr a9)))⟩⟩⟩⟩
          · cases eX
        · cases eX
      · -- one
        have q : noC x.1 := by rw [z]; decide
        have eo : oxP b bs now x S M = opOne x M S := by unfold oxP; rw [z]; rfl
        obtain ⟨X, eX⟩ := o3 q
        rw [eo] at eX
        unfold opOne at eX
        split at eX
        · rename_i v S'
          have sl : S'.length + 1 ≤ 1024 := by have := hs.2.2.1; simpa using this
          refine y_pop (r397 xs _ hs1) (Nat.le_refl _) (fun m1 w => y_ci (c361 xs (D + u + 2) m1 _ _) (by omega) (y_nx (r396 xs _ w.2 (by omega) _) (Nat.le_refl _) (fun m2 w2 => o1 q eo m2 ((hk1.tr w.1).tr w2.1) w2.2)))
        · cases eX
      · -- choose
        have q : noC x.1 := by rw [z]; decide
        have eo : oxP b bs now x S M = opCho M S := by unfold oxP; rw [z]; rfl
        obtain ⟨X, eX⟩ := o3 q
        rw [eo] at eX
        unfold opCho at eX
        split at eX
        · rename_i y w c S'
          have sl : S'.length + 1 + 1 + 1 ≤ 1024 := by have := hs.2.2.1; simpa using this
          refine y_pop (r397 xs _ hs1) (Nat.le_refl _) (fun m1 w1 => y_pop (r397 xs _ w1.2) (Nat.le_refl _) (fun m2 w2 => y_pop (r397 xs _ w2.2) (Nat.le_refl _) (fun m3 w3 => ?_)))
          have k3 := ((hk1.tr w1.1).tr w2.1).tr w3.1
          have fin : ∀ v : Int32, v = (if c = 0 then w else y) → yP (xg xs) (D + u + 4) 395 390 [(0, .ref 58), (1, .int (nI u)), (2, .int (nI b)), (3, .int (nI (st (u + 1)))), (4, .int (nI (st u + (i + 1)))), (5, .int 0)] [.int v, .ref 58] m3 (reQ m0 R) := by
            intro v hv
            refine w395_390 xs (D + u + 3) _ _ _ _ _ _ m3 _ (y_nx (r396 xs _ w3.2 (by omega) v) (Nat.le_refl _) (fun m4 w4 => o1 q eo m4 (k3.tr w4.1) ?_))
            rw [hv] at w4
            exact w4.2
          exact ⟨fun u1 => fin w (by rw [if_pos u1]), fun u1 => fin y (by rw [if_neg u1])⟩
        · cases eX
      · -- go
        rw [if_pos (Or.inl z)] at h
        cases ht : tgN x.2.1 with
        | none => rw [ht] at h; cases h
        | some t =>
          rw [ht] at h
          obtain ⟨t1, t2⟩ := tgN_s ht
          rw [eu, su.2, t1, nI_add]
          exact ⟨xu, go t S M (n + 1) _ h (by omega) hk1 hs1⟩
      · -- unless
        rw [if_neg (by rw [z]; decide), if_pos z] at h
        split at h
        · rename_i v S' t ht
          obtain ⟨t1, t2⟩ := tgN_s ht
          refine y_pop (r397 xs _ hs1) (Nat.le_refl _) (fun m1 w => ?_)
          have k1 := hk1.tr w.1
          rw [eu, e93 m1 k1, t1, nI_add]
          refine ⟨fun v0 => ?_, fun v0 => ⟨xu, ?_⟩⟩
          · rw [if_neg v0] at h
            exact w395_431 xs (D + u + 3) _ _ _ _ _ m1 _ (go (i + 1) S' M (n + 1) m1 h (by omega) k1 w.2)
          · rw [if_pos v0] at h
            exact w395_431 xs (D + u + 3) _ _ _ _ _ m1 _ (go t S' M (n + 1) m1 h (by omega) k1 w.2)
        · cases h
      · -- count
        have q : noC x.1 := by rw [z]; decide
        have eo : oxP b bs now x S M = (match celI b x.2.1 with | some c => some (.inl (S, upd M c x.2.2.1)) | none => none) := by unfold oxP; rw [z]; rfl
        obtain ⟨X, eX⟩ := o3 q
        rw [eo] at eX
        cases hc : celI b x.2.1 with
        | none => rw [hc] at eX; cases eX
        | some c =>
          obtain ⟨g1, g2, g3, g4⟩ := celI_s hc
          rw [hc] at eo
          rw [g1, g4]
          exact ⟨xl, g3, o1 q eo _ (hk1.s (by omega)) (hs1.ce c _)⟩
      · -- next
        rw [if_neg (by rw [z]; decide), if_neg (by rw [z]; decide), if_pos z] at h
        split at h
        · rename_i c t hc ht
          obtain ⟨t1, t2⟩ := tgN_s ht
          obtain ⟨g1, g2, g3, g4⟩ := celI_s hc
          rw [g1, g4, eu, su.2, t1, nI_add]
          refine ⟨g3, fun v0 => ⟨g3, g3, ?_⟩, fun v0 => ⟨xu, xl, ?_⟩⟩
          · rw [if_neg v0] at h
            exact go (i + 1) S _ (n + 1) _ h (by omega) (hk1.s (by omega)) (hs1.ce c _)
          · rw [if_pos v0] at h
            exact go t S M (n + 1) _ h (by omega) hk1 hs1
        · cases h
      · -- back
        rw [if_pos (Or.inr z)] at h
        cases ht : tgN x.2.1 with
        | none => rw [ht] at h; cases h
        | some t =>
          rw [ht] at h
          obtain ⟨t1, t2⟩ := tgN_s ht
          rw [eu, su.2, t1, nI_add]
          exact ⟨xu, go t S M (n + 1) _ h (by omega) hk1 hs1⟩
      · -- enter
        refine ⟨xl, ?_⟩
        cases eq : (if x.1 = 15 then (if 0 ≤ x.2.2.1 then some (b + x.2.2.1.toNatClampNeg) else none) else bs x.2.1.toNatClampNeg) with
        | none =>
          rw [if_neg (by rw [z]; decide), if_neg (by rw [z]; decide), if_neg (by rw [z]; decide), if_pos (Or.inl z), eq] at h
          cases h
        | some q =>
          refine sub q _ (Or.inl z) eq ?_
          rw [if_pos z] at eq
          split at eq
          · rename_i p
            obtain ⟨c, hc', ec⟩ := nI_of (x := x.2.2.1) (Int32.not_lt.mpr p)
            rw [ec, nI_clamp hc'] at eq
            rw [ec, nI_add, ← Option.some.inj eq]
          · cases eq
      · -- call
        have n15 : ¬ x.1 = 15 := by rw [z]; decide
        have hh := h
        rw [if_neg (by rw [z]; decide), if_neg (by rw [z]; decide), if_neg (by rw [z]; decide), if_pos (Or.inr z), if_neg n15] at hh
        cases eq : bs x.2.1.toNatClampNeg with
        | none => rw [eq] at hh; cases hh
        | some q =>
          obtain ⟨p1, p2, p3⟩ := c5 _ q eq
          rw [eq] at hh
          dsimp only at hh
          split at hh
          · rename_i p
            refine ⟨?_, sub q _ (Or.inr z) (by rw [if_neg n15]; exact eq) p2⟩
            obtain ⟨v, hv, ev⟩ := nI_of (x := x.2.1) (Int32.not_lt.mpr p.1)
            rw [ev, nI_clamp hv] at p1
            rw [ev]
            exact x_in_nI p1 (by decide)
          · cases hh
      · -- a standard block
        have q : noC x.1 := by rw [z]; decide
        have eo : oxP b bs now x S M = opBlk b now x M S := by unfold oxP; rw [z]; rfl
        obtain ⟨X, eX⟩ := o3 q
        rw [eo] at eX
        unfold opBlk at eX eo
        split at eX
        · rename_i p
          rw [if_pos p] at eo
          obtain ⟨p1, p2, p3, p4⟩ := p
          obtain ⟨k, hk', ek⟩ := nI_of (x := x.2.1) (Int32.not_lt.mpr p1)
          obtain ⟨c, hc', ec⟩ := nI_of (x := x.2.2.1) (Int32.not_lt.mpr p3)
          rw [ek, nI_clamp hk'] at p2 p4 eo
          rw [ec, nI_clamp hc'] at p4 eo
          rw [ek, ec, nI_add]
          refine ⟨xl, yC.mono (by omega) (fun r m1 w => ⟨w.1, ?_⟩) (c399 xs (D + u + 1) _ (c := b + c) (k := k) p4 p2)⟩
          have e64 : (y_si m 58 65 (nI (n + 1))).1 58 64 = now := by rw [hk1.2 58 64 (by omega) (by omega) (by omega)]; exact hnow
          rw [w.2, e64, hs1.1]
          exact o1 q eo _ (hk1.a _) (hs1.sa _)
        · cases eX
      · -- leave
        by_cases z18 : x.1 = 18
        · rw [if_neg (by rw [z18]; decide), if_neg (by rw [z18]; decide), if_neg (by rw [z18]; decide), if_neg (by rw [z18]; decide), if_pos z18] at h
          have fin : reQ m0 R (some (.int 0)) (y_si m 58 65 (nI (n + 1))) := by rw [← Option.some.inj h]; exact ⟨hk1, rfl, hs1⟩
          exact w395_561 xs (D + u + 3) _ _ _ _ _ _ _ (w395_20 xs (D + u + 3) _ _ _ _ _ _ _ ⟨fun _ => fin, fun w => absurd (nI_le (Nat.le_refl _) (by omega)) w⟩)
        · exfalso
          obtain ⟨X, eX⟩ := o3 ⟨fun w => w.elim z10 z14, z11, z13, fun w => w.elim z15 z16, z18⟩
          unfold oxP at eX
          rw [if_neg z0, if_neg z1, if_neg z2, if_neg z3, if_neg z4, if_neg z5, if_neg z6, if_neg z7, if_neg z8, if_neg z9, if_neg z12, if_neg z17] at eX
          cases eX
