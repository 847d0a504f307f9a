/-! THE MACHINE: the class keeps to the pure one -/
/-- instructions that lead elsewhere: what move does -/
theorem c245c (xs : List Int32) (d : Nat) {m : yM} {Fr : List (Nat × Nat × Nat)} {u b i l : Nat} {S : List Int32} {M : Nat → Int32} {n : Nat} {x : IT} {P : yM → Prop} (hl : l < 3000) (d36 : m.1 36 l = x.1) (d37 : m.1 37 l = x.2.1) (d38 : m.1 38 l = x.2.2.1) (h : CMs m Fr u b i S M n) (hx : x.1 = 10 ∨ x.1 = 11 ∨ x.1 = 13 ∨ x.1 = 14 ∨ x.1 = 15 ∨ x.1 = 16 ∨ x.1 = 18) (K : ∀ m1, KY m m1 → CMs m1 Fr u b (i + 1) S M (n + 1) → yC (xg xs) d 262 [.ref 52, .int x.1, .int x.2.1, .int x.2.2.1] m1 (fun r m' => r = none ∧ P m')) : yC (xg xs) (d + 1) 245 [.ref 52, .int (nI l)] m (fun r m' => ∃ c, r = some (Value.int c) ∧ (c = 0 ∧ P m')) := by
  have el : (nI l).toNatClampNeg = l := nI_clamp (by omega)
  have xl : x_in (nI l) 3000 = true := x_in_nI hl (by decide)
  have hs := h.st (n + 1) (i + 1)
  have e2 : m.1 52 2 + 1 = nI (n + 1) := by rw [h.2.2.1, nI_1]
  have e12 : m.1 52 12 + 1 = nI (i + 1) := by rw [h.2.2.2.2.2.1, nI_1]
  have k0 : KY m (y_si (y_si m 52 2 (nI (n + 1))) 52 12 (nI (i + 1))) := ((KY.re m).s (by omega)).s (by omega)
  have ne : ∀ k : Int32, k = 0 ∨ k = 1 ∨ k = 2 ∨ k = 3 ∨ k = 4 ∨ k = 5 ∨ k = 6 ∨ k = 7 ∨ k = 8 ∨ k = 9 ∨ k = 17 → ¬ x.1 = k := by
    intro k hk e
    rw [e] at hx
    rcases hk with rfl | rfl | rfl | rfl | rfl | rfl | rfl | rfl | rfl | rfl | rfl <;> exact absurd hx (by decide)
  refine w245_0 xs d _ m _ ?_
  rw [el, d36, d37, d38, e2, e12]
  refine ⟨xl, xl, xl, fun z => absurd z (ne _ (by simp)), fun z => absurd z (ne _ (by simp)), fun z => absurd z (ne _ (by simp)), fun z => absurd z (ne _ (by simp)), fun z => absurd z (ne _ (by simp)), fun z => absurd z (ne _ (by simp)), fun z => absurd z (ne _ (by simp)), fun z => absurd z (ne _ (by simp)), fun z => absurd z (ne _ (by simp)), fun z => absurd z (ne _ (by simp)), fun z => absurd z (ne _ (by simp)), fun _ _ _ _ _ _ _ _ _ _ _ => ⟨xl, ?_⟩⟩
  exact y_nx (K _ k0 hs) (Nat.le_refl _) (fun m2 q => ⟨0, rfl, rfl, q⟩)
theorem c263 (xs : List Int32) (d : Nat) {m : yM} {Fr : List (Nat × Nat × Nat)} {u b i : Nat} {S : List Int32} {M : Nat → Int32} {n : Nat} (h : CMs m Fr u b i S M n) (hF : Fr.length < 16) (v q : Nat) : yC (xg xs) (d + 1) 263 [.ref 52, .int (nI v), .int (nI q)] m (fun r m' => r = none ∧ KY m m' ∧ CMs m' ((u, i, b) :: Fr) v q 0 S M n) := by
  have e := h.en hF v q
  obtain ⟨h1, ⟨h2, h3, h4⟩, h5, ⟨h6, h7, h8⟩, h9, h10, h11⟩ := h
  refine w263_0 xs d _ _ m _ ?_
  rw [h6, nI_clamp (by omega), nI_1, h9, h10, h11]
  refine ⟨fun z => absurd ((nI_leI (a := 16) (by omega) (by omega)).mp z) (by omega), fun _ => ⟨x_in_nI (by omega) (by decide), x_in_nI (by omega) (by decide), x_in_nI (by omega) (by decide), rfl, ?_, e⟩⟩
  exact (((((((KY.re m).s (by omega)).s (by omega)).s (by omega)).s (by omega)).s (by omega)).s (by omega)).s (by omega)
theorem c243m (xs : List Int32) (D : Nat) {Us : Nat → List IT} {bs : Nat → Option Nat} {U : Nat} {st : Nat → Nat} {m0 : yM} {now : Int32} (hc0 : CCd Us bs U st m0) (hnow : m0.1 52 1 = now) {Q : Option Value → yM → Prop} : ∀ (f u b i : Nat) (S : List Int32) (M : Nat → Int32) (n : Nat) (R : XR) (m : yM) (Fr : List (Nat × Nat × Nat)) (t : Nat), exU Us bs now f u b i S M n = some R → u < U → Fr.length + u ≤ 15 → i ≤ 3001 → t + Fr.length ≤ 2 * n → (∀ r, R = .inl r → r.2.2 ≤ 50000) → (∀ r, R = .inr r → r.2.2 ≤ 50000) → KY m0 m → CMs m Fr u b i S M n → (∀ (r : List Int32 × (Nat → Int32) × Nat) (m' : yM) (t' i' : Nat), R = .inl r → (Us u).length ≤ i' → i' ≤ 3001 → t' + Fr.length ≤ 2 * r.2.2 → KY m0 m' → CMs m' Fr u b i' r.1 r.2.1 r.2.2 → yP (xg xs) (D + 7) 243 50 [(0, .ref 52), (2, .int (nI t'))] [] m' Q) → (∀ (r : Int32 × (Nat → Int32) × Nat) (m' : yM), R = .inr r → KY m0 m' → m'.1 53 = r.2.1 → m'.1 52 2 = nI r.2.2 → Q (some (.int r.1)) m') → yP (xg xs) (D + 7) 243 50 [(0, .ref 52), (2, .int (nI t))] [] m Q := by
  have U16 := hc0.1
  intro f
  induction f with
  | zero => intro u b i S M n R m Fr t h; cases h
  | succ f ih =>
    intro u b i S M n R m Fr t h hu hF hi ht hR1 hR2 hk hs K1 K2
    have hn := exU_n Us bs now (f + 1) u b i S M n R h
    have n5 : n ≤ 50000 := by
      rcases R with r | r
      · have := hn.1 r rfl; have := hR1 r rfl; omega
      · have := hn.2 r rfl; have := hR2 r rfl; omega
    have hc := hc0.k hk
    obtain ⟨-, c2, c3, c4, c5, c6⟩ := hc
    have su := c3 (u + 1) (by omega)
    have len := c2 u hu
    unfold exU at h
    cases hx : (Us u)[i]? with
    | none =>
      rw [hx] at h
      dsimp only at h
      have ge : (Us u).length ≤ i := List.getElem?_eq_none_iff.mp hx
      exact K1 (S, M, n) m t i (Option.some.inj h).symm ge hi ht hk hs
    | some x =>
      rw [hx] at h
      dsimp only at h
      have lt : i < (Us u).length := (List.getElem?_eq_some_iff.mp hx).1
      obtain ⟨d36, d37, d38, d39⟩ := c5 u hu i x hx
      have h11 := hs.2.2.2.2.1
      have h12 := hs.2.2.2.2.2.1
      have now1 : ∀ m1, KY m0 m1 → m1.1 52 1 = now := fun m1 k1 => (k1.2 52 1 (by omega) (by omega)).trans hnow
      -- the next turn
      have go : ∀ (i' : Nat) (S' : List Int32) (M' : Nat → Int32) (n' t' : Nat) (m1 : yM), exU Us bs now f u b i' S' M' n' = some R → i' ≤ 3001 → t' + Fr.length ≤ 2 * n' → KY m0 m1 → CMs m1 Fr u b i' S' M' n' → yP (xg xs) (D + 7) 243 50 [(0, .ref 52), (2, .int (nI t'))] [] m1 Q := fun i' S' M' n' t' m1 e hi' ht' k1 s1 => ih u b i' S' M' n' R m1 Fr t' e hu hF hi' ht' hR1 hR2 k1 s1 K1 K2
      have go1 : ∀ (i' : Nat) (S' : List Int32) (M' : Nat → Int32) (m1 : yM), exU Us bs now f u b i' S' M' (n + 1) = some R → i' ≤ 3001 → KY m0 m1 → CMs m1 Fr u b i' S' M' (n + 1) → yP (xg xs) (D + 7) 243 121 [(0, .ref 52), (2, .int (nI t))] [] m1 Q := by
        intro i' S' M' m1 e hi' k1 s1
        refine w243_121 xs (D + 6) _ m1 _ ?_
        rw [nI_1]
        exact go i' S' M' (n + 1) (t + 1) m1 e hi' (by omega) k1 s1
      refine w243_50 xs (D + 6) _ m _ ⟨fun z => absurd ((nI_ltI (a := 100001) (by omega) (by omega)).mp z) (by omega), fun _ => ?_⟩
      rw [h11]
      refine y_ci ((hc0.k hk).sz hu xs (D + 6)) (Nat.le_refl _) ⟨fun _ => ?_, fun z => absurd (by rw [h12]; exact nI_lt lt (by omega)) z⟩
      rw [h11, nI_clamp (by omega), c4.2.2 u hu, h12, nI_add]
      refine ⟨x_in_nI (by omega) (by decide), ?_⟩
      -- instructions that lead elsewhere
      have ctl : ∀ {P : yM → Prop}, (x.1 = 10 ∨ x.1 = 11 ∨ x.1 = 13 ∨ x.1 = 14 ∨ x.1 = 15 ∨ x.1 = 16 ∨ x.1 = 18) → (∀ m1, P m1 → yP (xg xs) (D + 7) 243 121 [(0, .ref 52), (2, .int (nI t))] [] m1 Q) → (∀ m1, KY m0 m1 → CMs m1 Fr u b (i + 1) S M (n + 1) → yC (xg xs) (D + 5) 262 [.ref 52, .int x.1, .int x.2.1, .int x.2.2.1] m1 (fun r m' => r = none ∧ P m')) → yC (xg xs) (D + 6) 245 [.ref 52, .int (nI (st u + i))] m (fun v2 m2 => ∃ u2, v2 = some (Value.int u2) ∧ ((u2 = 0 → yP (xg xs) (D + 6 + 1) 243 121 [(0, .ref 52), (2, .int (nI t))] [] m2 Q) ∧ (¬ u2 = 0 → Q (some (.int u2)) m2))) := by
        intro P hq hP K
        refine yC.mono (Nat.le_refl _) (fun r m2 q => ?_) (c245c xs (D + 5) (P := P) (by omega) d36 d37 d38 hs hq (fun m1 k1 s1 => K m1 (hk.tr k1) s1))
        obtain ⟨c, e, c0, p⟩ := q
        exact ⟨c, e, fun _ => hP m2 p, fun z => absurd c0 z⟩
      by_cases q1 : x.1 = 10 ∨ x.1 = 14
      · rw [if_pos q1] at h
        cases htg : tgN x.2.1 with
        | none => rw [htg] at h; cases h
        | some tg =>
          rw [htg] at h
          obtain ⟨t1, t2⟩ := tgN_s htg
          refine ctl (P := fun m' => KY m0 m' ∧ CMs m' Fr u b tg S M (n + 1)) (by rcases q1 with q | q <;> simp [q]) (fun m1 p => go1 tg S M m1 h (by omega) p.1 p.2) (fun m1 k1 s1 => ?_)
          have fin : KY m0 (y_si m1 52 12 x.2.1) ∧ CMs (y_si m1 52 12 x.2.1) Fr u b tg S M (n + 1) := by rw [t1]; exact ⟨k1.s (by omega), s1.nx tg⟩
          rcases q1 with q | q
          · rw [q]
            exact w262_0 xs (D + 4) _ _ _ m1 _ ⟨fun _ => ⟨rfl, fin⟩, fun w => absurd w (by decide), fun w => absurd w (by decide), fun w => absurd w (by decide), fun w => absurd w (by decide), fun w => absurd w (by decide), fun w => absurd w (by decide), fun w => absurd rfl w⟩
          · rw [q]
            exact w262_0 xs (D + 4) _ _ _ m1 _ ⟨fun w => absurd w (by decide), fun w => absurd w (by decide), fun w => absurd w (by decide), fun w => absurd w (by decide), fun _ => ⟨rfl, fin⟩, fun w => absurd w (by decide), fun w => absurd w (by decide), fun _ _ _ _ w => absurd rfl w⟩
      rw [if_neg q1] at h
      by_cases q2 : x.1 = 11
      · rw [if_pos q2] at h
        split at h
        · rename_i v S' tg htg
          obtain ⟨t1, t2⟩ := tgN_s htg
          refine ctl (P := fun m' => KY m0 m' ∧ CMs m' Fr u b (if v = 0 then tg else i + 1) S' M (n + 1)) (by simp [q2]) (fun m1 p => go1 _ S' M m1 h (by split <;> omega) p.1 p.2) (fun m1 k1 s1 => ?_)
          rw [q2]
          refine w262_0 xs (D + 4) _ _ _ m1 _ ⟨fun w => absurd w (by decide), fun _ => ?_, fun w => absurd w (by decide), fun w => absurd w (by decide), fun w => absurd w (by decide), fun w => absurd w (by decide), fun w => absurd w (by decide), fun _ w => absurd rfl w⟩
          refine y_pop (p248 xs (D + 4) s1) (Nat.le_refl _) (fun m2 p => ⟨fun v0 => ⟨rfl, k1.tr p.1, ?_⟩, fun v0 => ⟨rfl, (k1.tr p.1).s (by omega), ?_⟩⟩)
          · rw [if_neg v0]; exact p.2
          · rw [if_pos v0, t1]; exact p.2.nx tg
        · cases h
      rw [if_neg q2] at h
      by_cases q3 : x.1 = 13
      · rw [if_pos q3] at h
        split at h
        · rename_i c tg hcl htg
          obtain ⟨t1, t2⟩ := tgN_s htg
          obtain ⟨g1, g2, g3, g4⟩ := celI_s hcl
          refine ctl (P := fun m' => KY m0 m' ∧ CMs m' Fr u b (if M c = 0 then tg else i + 1) S (if M c = 0 then M else upd M c (M c - 1)) (n + 1)) (by simp [q3]) (fun m1 p => ?_) (fun m1 k1 s1 => ?_)
          · by_cases v0 : M c = 0
            · rw [if_pos v0] at h
              rw [if_pos v0, if_pos v0] at p
              exact go1 _ S _ m1 h (by omega) p.1 p.2
            · rw [if_neg v0] at h
              rw [if_neg v0, if_neg v0] at p
              exact go1 _ S _ m1 h (by omega) p.1 p.2
          · rw [q3]
            refine w262_0 xs (D + 4) _ _ _ m1 _ ⟨fun w => absurd w (by decide), fun w => absurd w (by decide), fun w => absurd w (by decide), fun _ => ?_, fun w => absurd w (by decide), fun w => absurd w (by decide), fun w => absurd w (by decide), fun _ _ _ w => absurd rfl w⟩
            rw [s1.2.2.2.2.2.2, g1]
            refine y_ci (m247 xs (D + 4) m1 g2) (Nat.le_refl _) ?_
            rw [s1.1]
            refine ⟨fun v0 => ?_, fun v0 => ⟨rfl, k1.s (by omega), ?_⟩⟩
            · rw [s1.2.2.2.2.2.2, g1]
              refine y_ci (m247 xs (D + 4) m1 g2) (Nat.le_refl _) (y_cv (m234 xs (D + 4) m1 g2 _) (Nat.le_refl _) ⟨rfl, k1.s (by omega), ?_⟩)
              rw [if_neg v0, if_neg v0, s1.1]
              exact s1.ce c _
            · rw [if_pos v0, if_pos v0, t1]
              exact s1.nx tg
        · cases h
      rw [if_neg q3] at h
      by_cases q4 : x.1 = 15 ∨ x.1 = 16
      · rw [if_pos q4] at h
        cases eq : (if x.1 = 15 then (if 0 ≤ x.2.2.1 then some (b + x.2.2.1.toNatClampNeg) else none) else bs x.2.1.toNatClampNeg) with
        | none => rw [eq] at h; cases h
        | some q =>
          rw [eq] at h
          dsimp only at h
          split at h
          · rename_i p
            obtain ⟨p1, p2, p3⟩ := p
            obtain ⟨v, hv, ev⟩ := nI_of (x := x.2.1) (Int32.not_lt.mpr p1)
            rw [ev, nI_clamp hv] at h p2
            cases hR : exU Us bs now f v q 0 S M (n + 1) with
            | none => rw [hR] at h; cases h
            | some R1 =>
              rw [hR] at h
              refine ctl (P := fun m' => KY m0 m' ∧ CMs m' ((u, i + 1, b) :: Fr) v q 0 S M (n + 1)) (by rcases q4 with w | w <;> simp [w]) (fun m1 pp => ?_) (fun m1 k1 s1 => ?_)
              · refine w243_121 xs (D + 6) _ m1 _ ?_
                rw [nI_1]
                have b1 : ∀ r, R1 = .inl r → r.2.2 ≤ 50000 := by
                  intro r e
                  rw [e] at h
                  have := exU_n Us bs now f u b (i + 1) _ _ _ R h
                  rcases R with r' | r'
                  · have a1 := this.1 r' rfl; have a2 := hR1 r' rfl; omega
                  · have a1 := this.2 r' rfl; have a2 := hR2 r' rfl; omega
                have b2 : ∀ r, R1 = .inr r → R = .inr r := by
                  intro r e
                  rw [e] at h
                  exact (Option.some.inj h).symm
                refine ih v q 0 S M (n + 1) R1 m1 ((u, i + 1, b) :: Fr) (t + 1) hR (by omega) (by simp; omega) (by omega) (by simp; omega) b1 (fun r e => hR2 r (b2 r e)) pp.1 pp.2 (fun r m2 t' i' eR ge hi' ht' k2 s2 => ?_) (fun r m2 eR k2 e1 e2 => K2 r m2 (b2 r eR) k2 e1 e2)
                have ht' : t' + (Fr.length + 1) ≤ 2 * r.2.2 := by simpa using ht'
                have r5 := b1 r eR
                have g11 := s2.2.2.2.2.1
                have g12 := s2.2.2.2.2.2.1
                have g10 : m2.1 52 10 = nI (Fr.length + 1) := by have := s2.2.2.2.1.1; simpa using this
                refine w243_50 xs (D + 6) _ m2 _ ⟨fun z => absurd ((nI_ltI (a := 100001) (by omega) (by omega)).mp z) (by omega), fun _ => ?_⟩
                rw [g11]
                have lv : (Us v).length ≤ 3000 := by have := c2 v (by omega); have := c3 (v + 1) (by omega); omega
                refine y_ci ((hc0.k k2).sz (by omega : v < U) xs (D + 6)) (Nat.le_refl _) ⟨fun z => ?_, fun _ => ⟨fun _ => ?_, fun z => ?_⟩⟩
                · rw [g12] at z
                  exact absurd ((nI_ltI (by omega) (by omega)).mp z) (by omega)
                · refine y_nx (s2.le xs (D + 5)) (Nat.le_refl _) (fun m3 w3 => ?_)
                  refine w243_121 xs (D + 6) _ m3 _ ?_
                  rw [nI_1]
                  rw [eR] at h
                  exact go (i + 1) r.1 r.2.1 r.2.2 (t' + 1) m3 h (by omega) (by omega) (k2.tr w3.1) w3.2
                · rw [g10] at z
                  exact absurd ((nI_eq (b := 0) (by omega) (by omega)).mp z) (by omega)
              · have en := c263 xs (D + 3) s1 (by omega) v q
                have en : yC (xg xs) (D + 4) 263 [.ref 52, .int (nI v), .int (nI q)] m1 (fun r m' => r = none ∧ (none : Option Value) = none ∧ KY m0 m' ∧ CMs m' ((u, i + 1, b) :: Fr) v q 0 S M (n + 1)) := yC.mono (Nat.le_refl _) (fun r m' w => ⟨w.1, rfl, k1.tr w.2.1, w.2.2⟩) en
                rw [ev]
                rcases q4 with w | w
                · rw [if_pos w] at eq
                  split at eq
                  · rename_i p4
                    obtain ⟨c, hc', ec⟩ := nI_of (x := x.2.2.1) (Int32.not_lt.mpr p4)
                    rw [ec, nI_clamp hc'] at eq
                    rw [w]
                    refine w262_0 xs (D + 4) _ _ _ m1 _ ⟨fun w => absurd w (by decide), fun w => absurd w (by decide), fun w => absurd w (by decide), fun w => absurd w (by decide), fun w => absurd w (by decide), fun _ => ?_, fun w => absurd w (by decide), fun _ _ _ _ _ w => absurd rfl w⟩
                    rw [s1.2.2.2.2.2.2, ec, nI_add, Option.some.inj eq]
                    exact en
                  · cases eq
                · rw [if_neg (by rw [w]; decide), ev, nI_clamp hv] at eq
                  obtain ⟨a1, a2⟩ := (hc0.k k1).2.2.2.2.2 v q eq
                  rw [w]
                  refine w262_0 xs (D + 4) _ _ _ m1 _ ⟨fun w => absurd w (by decide), fun w => absurd w (by decide), fun w => absurd w (by decide), fun w => absurd w (by decide), fun w => absurd w (by decide), fun w => absurd w (by decide), fun _ => ⟨x_in_nI a1 (by decide), ?_⟩, fun _ _ _ _ _ _ w => absurd rfl w⟩
                  rw [nI_clamp hv, a2]
                  exact en
          · cases h
      rw [if_neg q4] at h
      by_cases q5 : x.1 = 18
      · rw [if_pos q5] at h
        refine ctl (P := fun m' => KY m0 m' ∧ CMs m' Fr u b (Us u).length S M (n + 1)) (by simp [q5]) (fun m1 p => ?_) (fun m1 k1 s1 => ?_)
        · refine w243_121 xs (D + 6) _ m1 _ ?_
          rw [nI_1]
          exact K1 (S, M, n + 1) m1 (t + 1) (Us u).length (Option.some.inj h).symm (Nat.le_refl _) (by omega) (by show t + 1 + Fr.length ≤ 2 * (n + 1); omega) p.1 p.2
        · rw [q5]
          refine w262_0 xs (D + 4) _ _ _ m1 _ ⟨fun w => absurd w (by decide), fun w => absurd w (by decide), fun w => absurd w (by decide), fun w => absurd w (by decide), fun w => absurd w (by decide), fun w => absurd w (by decide), fun w => absurd w (by decide), fun _ _ _ _ _ _ _ => ?_⟩
          rw [s1.2.2.2.2.1]
          exact y_ci ((hc0.k k1).sz hu xs (D + 4)) (Nat.le_refl _) ⟨rfl, k1.s (by omega), s1.nx _⟩
      rw [if_neg q5] at h
      cases eX : oxP b bs now x S M with
      | none => rw [eX] at h; cases h
      | some X =>
        rw [eX] at h
        refine yC.mono (Nat.le_refl _) (fun r m2 q => ?_) (c245o xs (D + 1) (by omega) d36 d37 d38 d39 c6 (now1 m hk) hs eX)
        obtain ⟨w1, w2⟩ := q
        rcases X with ⟨S', M'⟩ | c
        · exact ⟨0, w2.1, fun _ => go1 (i + 1) S' M' m2 h (by omega) (hk.tr w1) w2.2, fun z => absurd rfl z⟩
        · exact ⟨c, w2.1, fun z => absurd z (ox_c eX), fun _ => K2 (c, M, n + 1) m2 (Option.some.inj h).symm (hk.tr w1) w2.2.1 w2.2.2⟩
