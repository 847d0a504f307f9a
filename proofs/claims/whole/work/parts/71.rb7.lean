/-! RULES: where cells lie, the text, a block's end of the class -/
def bsA (σ : RS) : Nat → Int32
  | 0 => cB σ (σ.1.length - 1)
  | b + 1 => if (σ.1.getD b dBK).1 = 1 then bsA σ b + cB σ b else bsA σ b
def BA (σ : RS) (m : yM) : Prop := m.1 18 10 = bsA σ (σ.1.length - 1) ∧ ∀ b, b < σ.1.length - 1 → (σ.1.getD b dBK).1 = 1 → m.1 27 b = bsA σ b
theorem CR.ot {F : List ND} {σ : RS} {m m' : yM} (h : CR F σ m) (g : ∀ a i, ¬ (a = 27) → ¬ (a = 18 ∧ i = 10) → m'.1 a i = m.1 a i) : CR F σ m' := by
  obtain ⟨h1, h2, h3, h4, h5⟩ := h
  refine ⟨?_, fun b x hb => ?_, fun v x hv => ?_, fun j hj => ?_, fun i hi => ?_⟩
  · rw [g _ _ (by omega) (by omega), g _ _ (by omega) (by omega), g _ _ (by omega) (by omega)]; exact h1
  · rw [g _ _ (by omega) (by omega), g _ _ (by omega) (by omega), g _ _ (by omega) (by omega), g _ _ (by omega) (by omega)]; exact h2 b x hb
  · refine ⟨by rw [g _ _ (by omega) (by omega)]; exact (h3 v x hv).1, fun z hz => ?_⟩
    rw [g _ _ (by omega) (by omega), g _ _ (by omega) (by omega), g _ _ (by omega) (by omega), g _ _ (by omega) (by omega)]
    exact (h3 v x hv).2 z hz
  · rw [g _ _ (by omega) (by omega), g _ _ (by omega) (by omega)]; exact h4 j hj
  · rw [g _ _ (by omega) (by omega), g _ _ (by omega) (by omega), g _ _ (by omega) (by omega), g _ _ (by omega) (by omega), g _ _ (by omega) (by omega)]; exact h5 i hi
theorem CR.s27 {F : List ND} {σ : RS} {m : yM} (h : CR F σ m) (b : Nat) (x y : Int32) : CR F σ (y_si (y_si m 27 b x) 18 10 y) := h.ot (fun a i u1 u2 => by rw [y_si_at, if_neg u2, y_si_at, if_neg (fun z => u1 z.1)])
theorem CR.s10 {F : List ND} {σ : RS} {m : yM} (h : CR F σ m) (y : Int32) : CR F σ (y_si m 18 10 y) := h.ot (fun a i u1 u2 => by rw [y_si_at, if_neg u2])
theorem c115 (xs : List Int32) (d : Nat) {F : List ND} {σ : RS} {m : yM} (h : CR F σ m) (h0 : 0 < σ.1.length) : yC (xg xs) (d + 2) 115 [.ref 18] m (fun r m' => r = none ∧ (KR m m' ∧ CR F σ m' ∧ BA σ m')) := by
  have hBl := h.nB.2
  have lp : ∀ (k i : Nat) (m1 : yM), CR F σ m1 → KR m m1 → m1.1 18 10 = bsA σ i → (∀ b, b < i → (σ.1.getD b dBK).1 = 1 → m1.1 27 b = bsA σ b) → i + k = σ.1.length - 1 → yP (xg xs) (d + 2) 115 15 [(0, .ref 18), (1, .int (nI i))] [] m1 (fun r m' => r = none ∧ (KR m m' ∧ CR F σ m' ∧ BA σ m')) := by
    intro k
    induction k with
    | zero =>
      intro i m1 c1 k1 a1 a2 hik
      refine w115_15 xs (d + 1) _ m1 _ (y_ci (c116 xs d c1 h0) (by omega) ⟨fun _ => ⟨rfl, k1, c1, ?_, ?_⟩, fun u => absurd (nI_le (by omega) (by omega)) u⟩)
      · rw [a1, show i = σ.1.length - 1 by omega]
      · rw [show i = σ.1.length - 1 by omega] at a2; exact a2
    | succ k ih =>
      intro i m1 c1 k1 a1 a2 hik
      have hi : i < σ.1.length := by omega
      have ei : (nI i).toNatClampNeg = i := nI_clamp (by omega)
      have xi : x_in (nI i) 512 = true := x_in_nI (by omega) (by decide)
      refine w115_15 xs (d + 1) _ m1 _ (y_ci (c116 xs d c1 h0) (by omega) ⟨fun u => absurd ((nI_leI (by omega) (by omega)).mp u) (by omega), fun _ => ⟨xi, ?_⟩⟩)
      rw [ei, (c1.b hi).1, (c1.b hi).2.2.1, a1]
      refine ⟨fun u => ?_, fun u => ⟨xi, xi, ?_⟩⟩
      · refine w115_58 xs (d + 1) _ m1 _ ?_
        rw [nI_1]
        refine ih (i + 1) m1 c1 k1 ?_ (fun b hb e => ?_) (by omega)
        · rw [a1, bsA, if_neg u]
        · by_cases y : b = i
          · subst y; exact absurd e u
          · exact a2 b (by omega) e
      · refine w115_58 xs (d + 1) _ _ _ ?_
        rw [nI_1]
        refine ih (i + 1) _ (c1.s27 i _ _) ((k1.si (by omega)).si (by omega)) ?_ (fun b hb e => ?_) (by omega)
        · rw [y_si_at, if_pos ⟨rfl, rfl⟩, bsA, if_pos u]; rfl
        · rw [y_si_at, if_neg (by omega), y_si_at]
          by_cases y : b = i
          · rw [if_pos ⟨rfl, y⟩, y]
          · rw [if_neg (fun z => y z.2)]
            exact a2 b (by omega) e
  have hb : σ.1.length - 1 < σ.1.length := by omega
  have eb : (nI (σ.1.length - 1)).toNatClampNeg = σ.1.length - 1 := nI_clamp (by omega)
  refine w115_0 xs (d + 1) m _ (y_ci (c116 xs d h h0) (by omega) ⟨x_in_nI (by omega) (by decide), ?_⟩)
  rw [eb, (h.b hb).2.2.1]
  exact lp (σ.1.length - 1) 0 _ (h.s10 _) ((KR.re m).si (by omega)) (by rw [y_si_at, if_pos ⟨rfl, rfl⟩]; rfl) (fun b hb _ => absurd hb (by omega)) (by omega)
def lkText (σ : RS) : RS ⊕ Int32 := if inB σ 3 then (if bsA σ (σ.1.length - 1) ≤ 8192 then .inl σ else .inr 42) else .inr 10
theorem c113 (xs : List Int32) (d : Nat) {F : List ND} {σ : RS} {A : List Nat} {m : yM} (h : CR F σ m) (hA : PH F A m) : yC (xg xs) (d + 3) 113 [.ref 31] m (fun r m' => LQ F A m (lkText σ) r m' ∧ (∀ σ', lkText σ = .inl σ' → BA σ' m')) := by
  unfold lkText
  refine w113_0 xs (d + 2) m _ (y_ci (c114 xs (d + 1) h 3) (by omega) ⟨fun u => ?_, fun u => ?_⟩)
  · rw [if_pos (if1 u)]
    have h0 : 0 < σ.1.length := (if1 u).1
    refine y_nx (c115 xs d h h0) (by omega) (fun m1 q => ?_)
    obtain ⟨k1, c1, a1⟩ := q
    rw [a1.1]
    refine ⟨fun w => ?_, fun w => ?_⟩
    · rw [if_pos w]
      exact ⟨⟨k1, rfl, c1, k1.ph hA⟩, fun σ' e => by have := Sum.inl.inj e; subst this; exact a1⟩
    · rw [if_neg w]
      exact ⟨⟨k1, rfl, by decide⟩, fun σ' e => by cases e⟩
  · rw [if_neg (if0 u)]
    exact ⟨LQ.no m (by decide), fun σ' e => by cases e⟩
def lkBlk (F : List ND) (σ : RS) : RS ⊕ Int32 := if inB σ 1 ∧ ¬ nIn σ (σ.1.length - 1) ≤ 8 then .inr 44 else .inl (ownC σ (σ.1.length - 1) (σ.1.getD (σ.1.length - 1) dBK).2.1 (szF F (σ.1.getD (σ.1.length - 1) dBK).2.1))
theorem c117 (xs : List Int32) (d : Nat) {F : List ND} {σ : RS} {A : List Nat} {m : yM} (h : CR F σ m) (hA : PH F A m) (hD : allD σ) (h0 : 0 < σ.1.length) : yC (xg xs) (d + 3) 117 [.ref 31] m (LQ F A m (lkBlk F σ)) := by
  unfold lkBlk
  have fin : yP (xg xs) (d + 3) 117 33 [(0, .ref 31)] [] m (LQ F A m (.inl (ownC σ (σ.1.length - 1) (σ.1.getD (σ.1.length - 1) dBK).2.1 (szF F (σ.1.getD (σ.1.length - 1) dBK).2.1)))) := by
    refine w117_33 xs (d + 2) m _ (y_nx (c121 xs d h h0) (by omega) (fun m1 q => ?_))
    exact ⟨q.1, rfl, q.2, q.1.ph hA⟩
  refine w117_0 xs (d + 2) m _ (y_ci (c114 xs (d + 1) h 1) (by omega) ⟨fun u => ?_, fun u => ?_⟩)
  · rw [if_neg (fun y => if0 u y.1)]
    exact fin
  · refine y_ci (c116 xs (d + 1) h h0) (by omega) (y_ci (c118 xs d h hD (by omega)) (by omega) ⟨fun w => ?_, fun w => ?_⟩)
    · rw [if_neg (fun y => y.2 w)]
      exact fin
    · rw [if_pos ⟨if1 u, w⟩]
      exact LQ.no m (by decide)
