/-! THE MACHINE: the class's instructions that go on -/
theorem c253 (xs : List Int32) (d : Nat) {m : yM} {Fr : List (Nat × Nat × Nat)} {u b i : Nat} {S : List Int32} {M : Nat → Int32} {n : Nat} {y w c : Int32} (h : CMs m Fr u b i (y :: w :: c :: S) M n) : yC (xg xs) (d + 1) 253 [.ref 52] m (fun r m' => r = none ∧ KY m m' ∧ CMs m' Fr u b i ((if c = 0 then w else y) :: S) M n) := by
  have sl : S.length + 1 + 1 + 1 ≤ 1024 := by have := h.2.1.2.1; simpa using this
  refine w253_0 xs d m _ (y_pop (p248 xs d h) (Nat.le_refl _) (fun m1 q1 => y_pop (p248 xs d q1.2) (Nat.le_refl _) (fun m2 q2 => y_pop (p248 xs d q2.2) (Nat.le_refl _) (fun m3 q3 => ?_))))
  have k3 := (q1.1.tr q2.1).tr q3.1
  refine ⟨fun z => ?_, fun z => ?_⟩
  · rw [if_pos z]
    exact w253_23 xs d _ m3 _ (y_nx (p246 xs d q3.2 (by omega) w) (Nat.le_refl _) (fun m4 q4 => ⟨rfl, k3.tr q4.1, q4.2⟩))
  · rw [if_neg z]
    exact w253_23 xs d _ m3 _ (y_nx (p246 xs d q3.2 (by omega) y) (Nat.le_refl _) (fun m4 q4 => ⟨rfl, k3.tr q4.1, q4.2⟩))
theorem c252 (xs : List Int32) (d : Nat) {m : yM} {Fr : List (Nat × Nat × Nat)} {u b i : Nat} {S : List Int32} {M : Nat → Int32} {n : Nat} {x : IT} {X : PR} (h : CMs m Fr u b i S M n) (hX : opTwo x M S = some X) : yC (xg xs) (d + 3) 252 [.ref 52, .int x.2.1] m (ciQ m Fr u b i n M X) := by
  unfold opTwo at hX
  split at hX
  · rename_i y w S'
    have sl : S'.length + 1 + 1 ≤ 1024 := by have := h.2.1.2.1; simpa using this
    split at hX
    · refine w252_0 xs (d + 2) _ m _ (y_pop (p248 xs (d + 2) h) (Nat.le_refl _) (fun m1 q1 => y_pop (p248 xs (d + 2) q1.2) (Nat.le_refl _) (fun m2 q2 => ?_)))
      have k2 := q1.1.tr q2.1
      have good : ¬ (divO x.2.1 ∧ y = 0) → yP (xg xs) (d + 3) 252 51 [(0, .ref 52), (1, .int x.2.1), (2, .int y), (3, .int w)] [] m2 (ciQ m Fr u b i n M X) := by
        intro dq
        rw [if_neg dq] at hX
        rw [← Option.some.inj hX]
        exact w252_51 xs (d + 2) _ _ _ m2 _ (y_ci (c175 xs d m2 _ _ _) (by omega) (y_nx (p246 xs (d + 2) q2.2 (by omega) _) (Nat.le_refl _) (fun m3 q3 => ⟨k2.tr q3.1, rfl, q3.2⟩)))
      have t37 : ∀ s0 : Int32, (¬ s0 = 0 ↔ divO x.2.1) → yP (xg xs) (d + 3) 252 37 [(0, .ref 52), (1, .int x.2.1), (2, .int y), (3, .int w)] [.int s0] m2 (ciQ m Fr u b i n M X) := by
        intro s0 e0
        refine w252_37 xs (d + 2) _ _ _ _ m2 _ ⟨fun v => good (fun dq => e0.mpr dq.1 v), fun v => ⟨fun y0 => good (fun dq => y0 dq.2), fun y0 => ?_⟩⟩
        rw [if_pos ⟨e0.mp v, y0⟩] at hX
        rw [← Option.some.inj hX]
        exact ⟨k2, rfl, q2.2.1, q2.2.2.2.1⟩
      have t32 : divO x.2.1 → yP (xg xs) (d + 3) 252 32 [(0, .ref 52), (1, .int x.2.1), (2, .int y), (3, .int w)] [] m2 (ciQ m Fr u b i n M X) := fun dq => w252_32 xs (d + 2) _ _ _ m2 _ (t37 1 ⟨fun _ => dq, fun _ => by decide⟩)
      exact ⟨fun a3 => t32 (Or.inl a3), fun a3 => ⟨fun a4 => t32 (Or.inr (Or.inl a4)), fun a4 => ⟨fun a8 => t32 (Or.inr (Or.inr (Or.inl a8))), fun a8 => ⟨fun a9 => t37 0 ⟨fun w => absurd rfl w, fun dq => absurd dq (fun w => w.elim a3 (fun w => w.elim a4 (fun w => w.elim a8 a9)))⟩, fun a9 => t32 (Or.inr (Or.inr (Or.inr a9)))⟩⟩⟩⟩
    · cases hX
  · cases hX
theorem c245o (xs : List Int32) (d : Nat) {m : yM} {Fr : List (Nat × Nat × Nat)} {u b i l : Nat} {S : List Int32} {M : Nat → Int32} {n : Nat} {bs : Nat → Option Nat} {now : Int32} {x : IT} {X : PR} (hl : l < 3000) (d36 : m.1 36 l = x.1) (d37 : m.1 37 l = x.2.1) (d38 : m.1 38 l = x.2.2.1) (d39 : m.1 39 l = x.2.2.2.1) (hbs : ∀ g q, bs g = some q → g < 512 ∧ m.1 27 g = nI q) (hnow : m.1 52 1 = now) (h : CMs m Fr u b i S M n) (hX : oxP b bs now x S M = some X) : yC (xg xs) (d + 5) 245 [.ref 52, .int (nI l)] m (ciQ m Fr u b (i + 1) (n + 1) M X) := by
  have el : (nI l).toNatClampNeg = l := nI_clamp (by omega)
  have xl : x_in (nI l) 3000 = true := x_in_nI hl (by decide)
  have hs := h.st (n + 1) (i + 1)
  have e2 : m.1 52 2 + 1 = nI (n + 1) := by rw [h.2.2.1, nI_1]
  have e12 : m.1 52 12 + 1 = nI (i + 1) := by rw [h.2.2.2.2.2.1, nI_1]
  have e13 : m.1 52 13 = nI b := h.2.2.2.2.2.2
  have k0 : KY m (y_si (y_si m 52 2 (nI (n + 1))) 52 12 (nI (i + 1))) := ((KY.re m).s (by omega)).s (by omega)
  have enow : (y_si (y_si m 52 2 (nI (n + 1))) 52 12 (nI (i + 1))).1 52 1 = now := by rw [y_si_at, if_neg (by omega), y_si_at, if_neg (by omega)]; exact hnow
  refine w245_0 xs (d + 4) _ m _ ?_
  rw [el, d36, d37, d38, d39, e2, e12, e13]
  generalize y_si (y_si m 52 2 (nI (n + 1))) 52 12 (nI (i + 1)) = m1 at hs k0 enow ⊢
  have ci : ∀ {r : Option Value} {m2 : yM}, ciQ m1 Fr u b (i + 1) (n + 1) M X r m2 → ciQ m Fr u b (i + 1) (n + 1) M X r m2 := fun q => ⟨k0.tr q.1, q.2⟩
  refine ⟨xl, xl, xl, fun z => ?_, fun z => ?_, fun z => ?_, fun z => ⟨xl, ?_⟩, fun z => ⟨xl, ?_⟩, fun z => ?_, fun z => ?_, fun z => ?_, fun z => ?_, fun z => ?_, fun z => ?_, fun z0 z1 z2 z3 z4 z5 z6 z7 z8 z9 z17 => ⟨xl, ?_⟩⟩
  · have eo : oxP b bs now x S M = if S.length < 1024 then some (.inl (x.2.1 :: S, M)) else none := by unfold oxP; rw [if_pos z]
    rw [eo] at hX
    split at hX
    · rename_i hl'
      rw [← Option.some.inj hX]
      exact y_nx (p246 xs (d + 4) hs hl' _) (Nat.le_refl _) (fun m2 q => ⟨k0.tr q.1, rfl, q.2⟩)
    · cases hX
  · have eo : oxP b bs now x S M = opLd (celI b x.2.1) M S := by unfold oxP; rw [z]; rfl
    rw [eo] at hX
    unfold opLd at hX
    split at hX
    · rename_i c hc
      obtain ⟨g1, g2, g3, g4⟩ := celI_s hc
      split at hX
      · rename_i hl'
        rw [← Option.some.inj hX, g1]
        refine y_ci (m247 xs (d + 4) m1 g2) (Nat.le_refl _) (y_nx (p246 xs (d + 4) hs hl' _) (Nat.le_refl _) (fun m2 q => ⟨k0.tr q.1, rfl, ?_⟩))
        rw [hs.1] at q
        exact q.2
      · cases hX
    · cases hX
  · have eo : oxP b bs now x S M = opSto (celI b x.2.1) M S := by unfold oxP; rw [z]; rfl
    rw [eo] at hX
    unfold opSto at hX
    split at hX
    · rename_i v S'
      split at hX
      · rename_i c hc
        obtain ⟨g1, g2, g3, g4⟩ := celI_s hc
        rw [← Option.some.inj hX, g1]
        exact y_pop (p248 xs (d + 4) hs) (Nat.le_refl _) (fun m2 q => y_cv (m234 xs (d + 4) m2 g2 v) (Nat.le_refl _) ⟨(k0.tr q.1).s (by omega), rfl, q.2.ce c v⟩)
      · cases hX
    · cases hX
  · have eo : oxP b bs now x S M = opTake b x M S := by unfold oxP; rw [z]; rfl
    rw [eo] at hX
    refine yC.mono (by omega) (fun r m2 q => ?_) (c249 xs d hs hX)
    rcases X with ⟨S', M'⟩ | c
    · exact ⟨0, q.2.1, by have := q; rw [q.2.1] at this; exact ci this⟩
    · exact ⟨c, q.2.1, by have := q; rw [q.2.1] at this; exact ci this⟩
  · have eo : oxP b bs now x S M = opPut b x M S := by unfold oxP; rw [z]; rfl
    rw [eo] at hX
    refine yC.mono (by omega) (fun r m2 q => ?_) (c251 xs d hs hX)
    rcases X with ⟨S', M'⟩ | c
    · exact ⟨0, q.2.1, by have := q; rw [q.2.1] at this; exact ci this⟩
    · exact ⟨c, q.2.1, by have := q; rw [q.2.1] at this; exact ci this⟩
  · have eo : oxP b bs now x S M = opLd (fnI bs x) M S := by unfold oxP; rw [z]; rfl
    rw [eo] at hX
    unfold opLd at hX
    split at hX
    · rename_i c hc
      obtain ⟨g, q', f1, f2, f3, f4⟩ := fnI_s hc
      obtain ⟨p1, p2⟩ := hbs g q' f3
      obtain ⟨g1, g2, g3, g4⟩ := celI_s f4
      split at hX
      · rename_i hl'
        rw [← Option.some.inj hX, f1, nI_clamp f2, p2, g1]
        refine ⟨x_in_nI p1 (by decide), y_ci (m247 xs (d + 4) m1 g2) (Nat.le_refl _) (y_nx (p246 xs (d + 4) hs hl' _) (Nat.le_refl _) (fun m2 q => ⟨k0.tr q.1, rfl, ?_⟩))⟩
        rw [hs.1] at q
        exact q.2
      · cases hX
    · cases hX
  · have eo : oxP b bs now x S M = opSto (fnI bs x) M S := by unfold oxP; rw [z]; rfl
    rw [eo] at hX
    unfold opSto at hX
    split at hX
    · rename_i v S'
      split at hX
      · rename_i c hc
        obtain ⟨g, q', f1, f2, f3, f4⟩ := fnI_s hc
        obtain ⟨p1, p2⟩ := hbs g q' f3
        obtain ⟨g1, g2, g3, g4⟩ := celI_s f4
        rw [← Option.some.inj hX, f1, nI_clamp f2, p2, g1]
        exact ⟨x_in_nI p1 (by decide), y_pop (p248 xs (d + 4) hs) (Nat.le_refl _) (fun m2 q => y_cv (m234 xs (d + 4) m2 g2 v) (Nat.le_refl _) ⟨(k0.tr q.1).s (by omega), rfl, q.2.ce c v⟩)⟩
      · cases hX
    · cases hX
  · have eo : oxP b bs now x S M = opTwo x M S := by unfold oxP; rw [z]; rfl
    rw [eo] at hX
    refine yC.mono (by omega) (fun r m2 q => ?_) (c252 xs d hs hX)
    rcases X with ⟨S', M'⟩ | c
    · exact ⟨0, q.2.1, by have := q; rw [q.2.1] at this; exact ci this⟩
    · exact ⟨c, q.2.1, by have := q; rw [q.2.1] at this; exact ci this⟩
  · have eo : oxP b bs now x S M = opOne x M S := by unfold oxP; rw [z]; rfl
    rw [eo] at hX
    unfold opOne at hX
    split at hX
    · rename_i v S'
      have sl : S'.length + 1 ≤ 1024 := by have := h.2.1.2.1; simpa using this
      rw [← Option.some.inj hX]
      exact y_pop (p248 xs (d + 4) hs) (Nat.le_refl _) (fun m2 q => y_ci (c178 xs (d + 4) m2 _ _) (Nat.le_refl _) (y_nx (p246 xs (d + 4) q.2 (by omega) _) (Nat.le_refl _) (fun m3 q3 => ⟨(k0.tr q.1).tr q3.1, rfl, q3.2⟩)))
    · cases hX
  · have eo : oxP b bs now x S M = opCho M S := by unfold oxP; rw [z]; rfl
    rw [eo] at hX
    unfold opCho at hX
    split at hX
    · rw [← Option.some.inj hX]
      exact y_nx (c253 xs d hs) (by omega) (fun m2 q => ⟨k0.tr q.1, rfl, q.2⟩)
    · cases hX
  · have eo : oxP b bs now x S M = opBlk b now x M S := by unfold oxP; rw [z]; rfl
    rw [eo] at hX
    unfold opBlk at hX
    split at hX
    · rename_i p
      obtain ⟨p1, p2, p3, p4⟩ := p
      obtain ⟨k, hk', ek⟩ := nI_of (x := x.2.1) (Int32.not_lt.mpr p1)
      obtain ⟨c, hc', ec⟩ := nI_of (x := x.2.2.1) (Int32.not_lt.mpr p3)
      rw [ek, nI_clamp hk'] at p2 p4 hX
      rw [ec, nI_clamp hc'] at p4 hX
      rw [← Option.some.inj hX, ek, ec, nI_add]
      refine y_cv (c254 xs d m1 (c := b + c) (k := k) p4 p2) (by omega) ?_
      rw [enow, hs.1]
      exact ⟨k0.a _, rfl, hs.sa _⟩
    · cases hX
  · by_cases z12 : x.1 = 12
    · have eo : oxP b bs now x S M = (match celI b x.2.1 with | some c => some (.inl (S, upd M c x.2.2.1)) | none => none) := by unfold oxP; rw [z12]; rfl
      rw [eo] at hX
      cases hc : celI b x.2.1 with
      | none => rw [hc] at hX; cases hX
      | some c =>
        obtain ⟨g1, g2, g3, g4⟩ := celI_s hc
        rw [hc] at hX
        rw [← Option.some.inj hX, z12]
        refine w262_0 xs (d + 3) _ _ _ m1 _ ⟨fun w => absurd w (by decide), fun w => absurd w (by decide), fun _ => ?_, fun w => absurd w (by decide), fun w => absurd w (by decide), fun w => absurd w (by decide), fun w => absurd w (by decide), fun _ _ w => absurd rfl w⟩
        rw [hs.2.2.2.2.2.2, g1]
        exact y_cv (m234 xs (d + 3) m1 g2 _) (Nat.le_refl _) ⟨rfl, k0.s (by omega), rfl, hs.ce c _⟩
    · exfalso
      unfold oxP at hX
      rw [if_neg z0, if_neg z1, if_neg z2, if_neg z3, if_neg z4, if_neg z5, if_neg z6, if_neg z7, if_neg z8, if_neg z9, if_neg z12, if_neg z17] at hX
      cases hX
