/-! TOKENS OF THE CLASS: the whole text -/
/-- the token behind pos, and its place -/
def tokN (f : Nat → Nat) (n pos : Nat) : (Nat × Nat × Nat) × Nat := (if (blk f n 8192 pos).2 = true then (5, 2, 0) else tkAt f n (blk f n 8192 pos).1, (blk f n 8192 pos).1)
def ps (f : Nat → Nat) (n : Nat) : Nat → Nat
  | 0 => 0
  | t + 1 => (tokN f n (ps f n t)).1.2.2
abbrev isEnd (f : Nat → Nat) (n t : Nat) : Prop := (tokN f n (ps f n t)).1.1 = 0 ∨ (tokN f n (ps f n t)).1.1 = 5
/-- the arrays hold token t; Ns are the names -/
def TkA (m : yM) (Ns : List (List Int32)) (f : Nat → Nat) (n t : Nat) : Prop := m.1 10 t = nI (tokN f n (ps f n t)).2 ∧
  (if (tokN f n (ps f n t)).1.1 = 1 then ∃ j, j < Ns.length ∧ Ns.getD j [] = nmT f (tokN f n (ps f n t)).2 ((tokN f n (ps f n t)).1.2.2 - (tokN f n (ps f n t)).2) ∧ m.1 9 t = (if j < 41 then nI j else 64) ∧ m.1 11 t = nI j
   else m.1 9 t = ckd (tokN f n (ps f n t)).1 ∧ m.1 11 t = cvl (tokN f n (ps f n t)).1)
theorem TkA.mono {m m' : yM} {Ns Ns' : List (List Int32)} {f : Nat → Nat} {n t : Nat} (h : TkA m Ns f n t) (hp : Ns <+: Ns') (h9 : m'.1 9 t = m.1 9 t) (h10 : m'.1 10 t = m.1 10 t) (h11 : m'.1 11 t = m.1 11 t) : TkA m' Ns' f n t := by
  unfold TkA at h ⊢
  rw [h9, h10, h11]
  refine ⟨h.1, ?_⟩
  have h2 := h.2
  split at h2
  · rename_i hc
    rw [if_pos hc]
    obtain ⟨j, j1, j2, j3, j4⟩ := h2
    obtain ⟨z, rfl⟩ := hp
    refine ⟨j, by simp; omega, ?_, j3, j4⟩
    rw [← j2]
    simp [List.getElem?_append_left j1]
  · rename_i hc
    rw [if_neg hc]
    exact h2
theorem finN_adv {f : Nat → Nat} {n e V : Nat} (h : ¬ (finN f n e V).1 = 5) : (finN f n e V).2.2 = e := by
  unfold finN at h ⊢
  split
  · rename_i z; rw [if_pos z] at h; exact absurd rfl h
  · rfl
theorem rn_pos {f : Nat → Nat} {P : Nat → Bool} {q i : Nat} (hq : 0 < q) (h : P (f i) = true) : i + 1 ≤ rn f P q i := by
  obtain ⟨q, rfl⟩ : ∃ z, q = z + 1 := ⟨q - 1, by omega⟩
  unfold rn
  rw [if_pos h]
  exact (rn_le f P q (i + 1)).1
theorem tkAt_adv {f : Nat → Nat} {n p : Nat} (h0 : ¬ (tkAt f n p).1 = 0) (h5 : ¬ (tkAt f n p).1 = 5) : p < (tkAt f n p).2.2 ∧ (tkAt f n p).2.2 ≤ n := by
  unfold tkAt at h0 h5 ⊢
  by_cases hp : p < n
  · rw [if_neg (fun z => z hp)] at h0 h5 ⊢
    by_cases ht : gN (f p) = 84 ∧ p + 1 < n ∧ f (p + 1) = 35
    · rw [if_pos ht] at h0 h5 ⊢
      have he := rn_le f (isDg 10) (n - (p + 2)) (p + 2)
      generalize rn f (isDg 10) (n - (p + 2)) (p + 2) = E at *
      generalize dv f 10 (n - (p + 2)) (p + 2) 0 = V at *
      unfold timT at h0 h5 ⊢
      by_cases c1 : E = p + 2
      · rw [if_pos c1] at h5; exact absurd rfl h5
      rw [if_neg c1] at h5 ⊢
      by_cases c2 : (E < n ∧ gN (f E) = 77) ∧ (E + 1 < n ∧ gN (f (E + 1)) = 83)
      · rw [if_pos c2] at h5 ⊢
        rw [finN_adv h5]; omega
      rw [if_neg c2] at h5 ⊢
      by_cases c3 : E < n ∧ gN (f E) = 83
      · rw [if_pos c3] at h5 ⊢
        rw [finN_adv h5]; omega
      rw [if_neg c3] at h5 ⊢
      by_cases c4 : E < n ∧ gN (f E) = 77
      · rw [if_pos c4] at h5 ⊢
        rw [finN_adv h5]; omega
      rw [if_neg c4] at h5 ⊢
      by_cases c5 : E < n ∧ gN (f E) = 72
      · rw [if_pos c5] at h5 ⊢
        rw [finN_adv h5]; omega
      rw [if_neg c5] at h5
      exact absurd rfl h5
    · rw [if_neg ht] at h0 h5 ⊢
      by_cases hd : dN (f p) < 10
      · rw [if_pos hd] at h0 h5 ⊢
        have he := rn_le f (isDg 10) (n - p) p
        have hq := rn_pos (f := f) (P := isDg 10) (q := n - p) (i := p) (by omega) (by simpa using hd)
        generalize rn f (isDg 10) (n - p) p = E at *
        generalize dv f 10 (n - p) p 0 = V at *
        unfold numT at h0 h5 ⊢
        by_cases h1 : E < n ∧ f E = 35
        · rw [if_pos h1] at h0 h5 ⊢
          by_cases h2 : V = 16 ∨ V = 2
          · rw [if_pos h2] at h0 h5 ⊢
            have he2 := rn_le f (isDg V) (n - (E + 1)) (E + 1)
            by_cases h3 : rn f (isDg V) (n - (E + 1)) (E + 1) = E + 1
            · rw [if_pos h3] at h5; exact absurd rfl h5
            · rw [if_neg h3] at h5 ⊢
              rw [finN_adv h5]; omega
          · rw [if_neg h2] at h5; exact absurd rfl h5
        · rw [if_neg h1] at h5 ⊢
          rw [finN_adv h5]; omega
      · rw [if_neg hd] at h0 h5 ⊢
        by_cases hi : isPN (f p)
        · rw [if_pos hi] at h0 h5 ⊢
          have he := rn_le f isPb (n - p) p
          have hq := rn_pos (f := f) (P := isPb) (q := n - p) (i := p) (by omega) (by simpa using hi)
          by_cases h3 : 32 < rn f isPb (n - p) p - p
          · rw [if_pos h3] at h5; exact absurd rfl h5
          · rw [if_neg h3]
            show p < rn f isPb (n - p) p ∧ rn f isPb (n - p) p ≤ n
            omega
        · rw [if_neg hi] at h0 h5 ⊢
          by_cases hc : f p = 37
          · rw [if_pos hc] at h0 h5 ⊢
            have he := rn_le f (isDg 10) (n - (p + 3)) (p + 3)
            generalize rn f (isDg 10) (n - (p + 3)) (p + 3) = E at *
            generalize dv f 10 (n - (p + 3)) (p + 3) 0 = V at *
            unfold plT at h0 h5 ⊢
            by_cases g1 : wyN (grN f n (p + 1)) = 3 ∨ ¬ (p + 2 < n ∧ (gN (f (p + 2)) = 88 ∨ gN (f (p + 2)) = 87))
            · rw [if_pos g1] at h5; exact absurd rfl h5
            · rw [if_neg g1] at h5 ⊢
              by_cases g2 : E = p + 3 ∨ (if gN (f (p + 2)) = 88 then 255 else 63) < V ∨ (E < n ∧ isPN (f E))
              · rw [if_pos g2] at h5; exact absurd rfl h5
              · rw [if_neg g2]
                show p < E ∧ E ≤ n
                have g3 : p + 2 < n := Classical.byContradiction (fun z => g1 (Or.inr (fun y => z y.1)))
                omega
          · rw [if_neg hc] at h0 h5 ⊢
            unfold sgT at h0 h5 ⊢
            by_cases g1 : twN f n p = 0
            · rw [if_pos g1] at h5 ⊢
              by_cases g2 : isSg (f p)
              · rw [if_pos g2]
                show p < p + 1 ∧ p + 1 ≤ n
                omega
              · rw [if_neg g2] at h5; exact absurd rfl h5
            · rw [if_neg g1]
              show p < p + 2 ∧ p + 2 ≤ n
              have g2 : p + 1 < n := Classical.byContradiction (fun z => g1 (by
                unfold twN
                rw [if_neg (fun y => z y.1), if_neg (fun y => z y.2.1), if_neg (fun y => z y.2.1)]))
              omega
  · rw [if_pos hp] at h0
    exact absurd rfl h0
theorem tkAt_nm {f : Nat → Nat} {n p : Nat} (h : (tkAt f n p).1 = 1) : p < n ∧ isPN (f p) ∧ (tkAt f n p).2.2 = rn f isPb (n - p) p ∧ ¬ 32 < rn f isPb (n - p) p - p := by
  unfold tkAt at h ⊢
  by_cases hp : p < n
  · rw [if_neg (fun z => z hp)] at h ⊢
    by_cases ht : gN (f p) = 84 ∧ p + 1 < n ∧ f (p + 1) = 35
    · rw [if_pos ht] at h
      have := timT_K f n p (rn f (isDg 10) (n - (p + 2)) (p + 2)) (dv f 10 (n - (p + 2)) (p + 2) 0)
      omega
    · rw [if_neg ht] at h ⊢
      by_cases hd : dN (f p) < 10
      · rw [if_pos hd] at h
        have := numT_K f n p (rn f (isDg 10) (n - p) p) (dv f 10 (n - p) p 0)
        omega
      · rw [if_neg hd] at h ⊢
        by_cases hi : isPN (f p)
        · rw [if_pos hi] at h ⊢
          by_cases h3 : 32 < rn f isPb (n - p) p - p
          · rw [if_pos h3] at h; exact absurd h (by decide)
          · rw [if_neg h3]
            exact ⟨hp, hi, rfl, h3⟩
        · rw [if_neg hi] at h
          by_cases hc : f p = 37
          · rw [if_pos hc] at h
            have := plT_K f n p (rn f (isDg 10) (n - (p + 3)) (p + 3)) (dv f 10 (n - (p + 3)) (p + 3) 0)
            omega
          · rw [if_neg hc] at h
            have := sgT_K f n p
            omega
  · rw [if_pos hp] at h
    exact absurd h (show ¬ (0 : Nat) = 1 by decide)
theorem KN_off : offs KN KN.length = 330 := by decide +kernel
/-- names are few: at most one in two bytes -/
def cN_ (Ns : List (List Int32)) (f : Nat → Nat) (n pos : Nat) : Prop := 2 * Ns.length ≤ 150 + pos + 1 ∧ (2 * Ns.length = 150 + pos + 1 → pos < n → ¬ isPN (f pos)) ∧ offs Ns Ns.length ≤ 330 + pos
def SI (m0 m : yM) (f : Nat → Nat) (n t : Nat) (Ns : List (List Int32)) : Prop := TX m f n ∧ m.1 8 6 = nI t ∧ m.1 8 8 = 0 ∧ NI m Ns ∧ KN <+: Ns ∧ cN_ Ns f n (ps f n t) ∧ t ≤ ps f n t ∧ ps f n t ≤ n ∧ (∀ i, i < t → TkA m Ns f n i ∧ ¬ isEnd f n i) ∧ (∀ a, a < 8 ∨ 16 < a → m.1 a = m0.1 a) ∧ m.2 = m0.2
def ScQ (m0 : yM) (f : Nat → Nat) (n : Nat) (r : Option Value) (m : yM) : Prop := r = none ∧ ∃ (T : Nat) (Ns : List (List Int32)), T ≤ n ∧ isEnd f n T ∧ (∀ i, i < T → ¬ isEnd f n i) ∧ (∀ i, i ≤ T → TkA m Ns f n i) ∧ NI m Ns ∧ KN <+: Ns ∧ (∀ a, a < 8 ∨ 16 < a → m.1 a = m0.1 a) ∧ m.2 = m0.2
theorem tkAdd_o {m : yM} {k a i : Nat} {x y z : Int32} (h : a ≠ 9) (h2 : a ≠ 10) (h3 : a ≠ 11) (h4 : ¬ (a = 8 ∧ i = 6)) : (tkAdd m k x y z).1 a i = m.1 a i := by
  unfold tkAdd
  simp only [y_si_at]
  rw [if_neg h4, if_neg (fun q => h3 q.1), if_neg (fun q => h2 q.1), if_neg (fun q => h q.1)]
theorem tkAdd_t {m : yM} {k i : Nat} {x y z : Int32} : (tkAdd m k x y z).1 9 i = (if i = k then x else m.1 9 i) ∧ (tkAdd m k x y z).1 10 i = (if i = k then y else m.1 10 i) ∧ (tkAdd m k x y z).1 11 i = (if i = k then z else m.1 11 i) := by
  unfold tkAdd
  simp only [y_si_at]
  simp
theorem NI.kept {m m' : yM} {Ns : List (List Int32)} (h : NI m Ns) (hk : ∀ a, 12 ≤ a → a ≤ 16 → m'.1 a = m.1 a) : NI m' Ns := by
  obtain ⟨h1, h2, h3, h4, h5, h6, h7, h8⟩ := h
  refine ⟨by rw [hk 12 (by decide) (by decide)]; exact h1, h2, fun i hi => by rw [hk 14 (by decide) (by decide)]; exact h3 i hi, h4, fun i hi => Eq.trans (nmAt_eq.mpr (fun e _ => by rw [hk 13 (by decide) (by decide)])) (h5 i hi), fun i hi => by rw [hk 15 (by decide) (by decide)]; exact h6 i hi, fun b hb => by rw [hk 16 (by decide) (by decide)]; exact h7 b hb, h8⟩
theorem tkAdd_TX {m : yM} {f : Nat → Nat} {n k : Nat} {x y z : Int32} (h : TX m f n) : TX (tkAdd m k x y z) f n := (((h.si (by decide) (Or.inl (by decide))).si (by decide) (Or.inl (by decide))).si (by decide) (Or.inl (by decide))).si (by decide) (Or.inr (by decide))
theorem c19D (xs : List Int32) (d : Nat) (m : yM) (Q : Option Value → yM → Prop) (l3 l4 : Int32) (h : ¬ m.1 8 8 = 0) (hq : Q none m) : yP (xg xs) (d + 1) 19 66 [(0, .ref 8), (3, .int l3), (4, .int l4)] [] m Q :=
  w19_66 xs d _ _ m _ (w19_32 xs d _ _ m _ ⟨fun _ => hq, fun _ => ⟨fun _ => hq, fun z => absurd z h⟩⟩)
theorem c19L (xs : List Int32) (d : Nat) (m0 : yM) {f : Nat → Nat} {n : Nat} : ∀ (q t : Nat) (m : yM) (Ns : List (List Int32)), n - ps f n t ≤ q → SI m0 m f n t Ns → yP (xg xs) (d + 6) 19 32 [(0, .ref 8), (3, .int (nI (ps f n t))), (4, .int (nI t))] [] m (ScQ m0 f n) := by
  intro q
  induction q using Nat.strongRecOn with
  | ind q ih =>
    intro t m Ns hq hS
    obtain ⟨hT, h6, h88, hN, hP, hc, ht, hpn, hA, hO, h2⟩ := hS
    have h8 := hT.2.2.1
    have h5 := hT.2.1
    refine w19_32 xs (d + 5) _ _ m _ ⟨fun z => absurd z (nI_nlt (a := 8192) (by omega) (by decide)), fun _ => ⟨fun z => absurd h88 z, fun _ => ?_⟩⟩
    have hb := blk_le f n 8192 (ps f n t) hpn
    have hx : tokN f n (ps f n t) = (if (blk f n 8192 (ps f n t)).2 = true then (5, 2, 0) else tkAt f n (blk f n 8192 (ps f n t)).1, (blk f n 8192 (ps f n t)).1) := rfl
    refine yC.mono (by omega) ?_ (c35 xs d m hT t h6 (by omega) (ps f n t) hpn)
    intro r m1 hbl
    unfold blQ at hbl
    -- a token that ends all: as added to a memory like m
    have fin : ∀ (m2 m3 : yM) (Ns' : List (List Int32)), NI m2 Ns' → Ns <+: Ns' → (∀ a i, a ≠ 8 → a < 12 ∨ 16 < a → m2.1 a i = m.1 a i) → m2.2 = m.2 → (∀ a, 12 ≤ a → a ≤ 16 → m3.1 a = m2.1 a) → (∀ a, a < 8 ∨ 16 < a → m3.1 a = m2.1 a) → m3.2 = m2.2 → (∀ i, i < t → m3.1 9 i = m2.1 9 i ∧ m3.1 10 i = m2.1 10 i ∧ m3.1 11 i = m2.1 11 i) → TkA m3 Ns' f n t → isEnd f n t → ScQ m0 f n none m3 := by
      intro m2 m3 Ns' g1 g2 g3 g4 g5 g6 g7 g8 g9 g10
      refine ⟨rfl, t, Ns', by omega, g10, fun i hi => (hA i hi).2, fun i hi => ?_, g1.kept g5, hP.trans g2, fun a ha => ?_, by rw [g7, g4, h2]⟩
      · rcases Nat.lt_or_ge i t with z | z
        · obtain ⟨w1, w2, w3⟩ := g8 i z
          exact (hA i z).1.mono g2 (by rw [w1, g3 9 i (by decide) (by decide)]) (by rw [w2, g3 10 i (by decide) (by decide)]) (by rw [w3, g3 11 i (by decide) (by decide)])
        · rw [show i = t by omega]
          exact g9
      · rw [g6 a ha]
        funext i
        rw [g3 a i (by omega) (by omega), hO a ha]
    by_cases hbad : (blk f n 8192 (ps f n t)).2 = true
    · rw [if_pos hbad] at hbl hx
      obtain ⟨rfl, rfl⟩ := hbl
      refine ⟨_, rfl, fun _ => ?_, fun z => absurd z (by rw [y_si_same]; decide)⟩
      refine c19D xs (d + 5) _ _ _ _ (by rw [y_si_same]; decide) ?_
      refine fin m _ Ns hN (List.prefix_refl _) (fun _ _ _ _ => rfl) rfl (fun a a1 a2 => ?_) (fun a ha => ?_) rfl (fun i hi => ?_) ?_ ?_
      · funext i
        rw [y_si_at, if_neg (by omega), tkAdd_o (by omega) (by omega) (by omega) (by omega)]
      · funext i
        rw [y_si_at, if_neg (by omega), tkAdd_o (by omega) (by omega) (by omega) (by omega)]
      · simp only [y_si_at]
        obtain ⟨w1, w2, w3⟩ := tkAdd_t (m := m) (k := t) (i := i) (x := 68) (y := nI (blk f n 8192 (ps f n t)).1) (z := 2)
        rw [if_neg (by omega), if_neg (by omega), if_neg (by omega), w1, w2, w3]
        exact ⟨if_neg (by omega), if_neg (by omega), if_neg (by omega)⟩
      · unfold TkA
        rw [hx]
        simp only [y_si_at]
        obtain ⟨w1, w2, w3⟩ := tkAdd_t (m := m) (k := t) (i := t) (x := 68) (y := nI (blk f n 8192 (ps f n t)).1) (z := 2)
        rw [if_neg (by omega), w2, if_pos rfl]
        refine ⟨rfl, ?_⟩
        rw [if_neg (by decide), if_neg (by omega), if_neg (by omega), w1, w3, if_pos rfl, if_pos rfl]
        exact ⟨rfl, rfl⟩
      · unfold isEnd
        rw [hx]
        exact Or.inr rfl
    · rw [if_neg hbad] at hbl hx
      obtain ⟨rfl, rfl⟩ := hbl
      refine ⟨_, rfl, fun z => absurd h88 z, fun _ => ?_⟩
      generalize hB : (blk f n 8192 (ps f n t)).1 = b at *
      have few : b < n → isPN (f b) → 2 * Ns.length ≤ 150 + b := by
        intro z1 z2
        obtain ⟨c1, c2, -⟩ := hc
        rcases Nat.lt_or_ge (ps f n t) b with y | y
        · omega
        · have e : ps f n t = b := by omega
          rw [e] at c1 c2
          rcases Nat.lt_or_ge (2 * Ns.length) (150 + b + 1) with x | x
          · omega
          · exact absurd z2 (c2 (by omega) z1)
      refine yC.mono (by omega) ?_ (c40 xs d m1 hT Ns hN (fun z1 z2 => by have := few z1 z2; omega) t h6 (by omega) hb.2 (by have := hc.2.2; omega))
      intro r m2 hbt
      have hps : ps f n (t + 1) = (tkAt f n b).2.2 := by show (tokN f n (ps f n t)).1.2.2 = _; rw [hx]
      unfold btQ at hbt
      by_cases k1 : (tkAt f n b).1 = 1
      · rw [if_pos k1] at hbt
        obtain ⟨j, Ns', m3, rfl, j1, j2, j3, j4, j5, rfl⟩ := hbt
        obtain ⟨n1, n2, n3, n4⟩ := tkAt_nm k1
        have adv := tkAt_adv (f := f) (n := n) (p := b) (by omega) (by omega)
        have hf2 := few n1 n2
        refine ⟨_, rfl, ?_⟩
        refine w19_66 xs (d + 5) _ _ _ _ ?_
        rw [nI_1, ← hps]
        have hpre : Ns <+: Ns' := by
          rcases j5 with ⟨rfl, -⟩ | ⟨-, rfl, -⟩
          · exact List.prefix_refl _
          · exact List.prefix_append _ _
        have hlen : Ns'.length ≤ Ns.length + 1 ∧ offs Ns' Ns'.length ≤ offs Ns Ns.length + ((tkAt f n b).2.2 - b) := by
          rcases j5 with ⟨rfl, -⟩ | ⟨-, rfl, -⟩
          · exact ⟨by omega, by omega⟩
          · rw [show (Ns ++ [nmT f b ((tkAt f n b).2.2 - b)]).length = Ns.length + 1 by simp, offs_a1, nmT_len]
            exact ⟨by omega, by omega⟩
        refine ih (n - ps f n (t + 1)) (by omega) (t + 1) _ Ns' (Nat.le_refl _) ⟨tkAdd_TX (j2.tx hT), ?_, ?_, j1.kept (fun a a1 a2 => ?_), hP.trans hpre, ?_, by omega, by omega, fun i hi => ?_, fun a ha => ?_, ?_⟩
        · simp [tkAdd, y_si_at]
        · rw [tkAdd_o (by decide) (by decide) (by decide) (by decide), j2.1 8 (by decide)]
          exact h88
        · funext i
          rw [tkAdd_o (by omega) (by omega) (by omega) (by omega)]
        · rw [hps]
          refine ⟨by omega, fun z y => ?_, by have := hc.2.2; omega⟩
          have e := rn_end f isPb (n - b) b (by rw [← n3]; omega)
          rw [← n3] at e
          simpa using e
        · rcases Nat.lt_or_ge i t with z | z
          · obtain ⟨w1, w2, w3⟩ := tkAdd_t (m := m3) (k := t) (i := i) (x := if j < 41 then nI j else 64) (y := nI b) (z := nI j)
            refine ⟨(hA i z).1.mono hpre ?_ ?_ ?_, (hA i z).2⟩
            · rw [w1, if_neg (by omega), j2.1 9 (by decide)]
            · rw [w2, if_neg (by omega), j2.1 10 (by decide)]
            · rw [w3, if_neg (by omega), j2.1 11 (by decide)]
          · have e : i = t := by omega
            subst e
            obtain ⟨w1, w2, w3⟩ := tkAdd_t (m := m3) (k := i) (i := i) (x := if j < 41 then nI j else 64) (y := nI b) (z := nI j)
            refine ⟨?_, ?_⟩
            · unfold TkA
              rw [hx, w1, w2, w3, if_pos rfl, if_pos rfl, if_pos rfl]
              refine ⟨rfl, ?_⟩
              rw [if_pos k1]
              exact ⟨j, j3, j4, rfl, rfl⟩
            · unfold isEnd
              rw [hx]
              show ¬ ((tkAt f n b).1 = 0 ∨ (tkAt f n b).1 = 5)
              omega
        · funext i
          rw [tkAdd_o (by omega) (by omega) (by omega) (by omega), j2.1 a (by omega), hO a ha]
        · show m3.2 = m0.2
          rw [j2.2, h2]
      · rw [if_neg k1] at hbt
        by_cases k0 : (tkAt f n b).1 = 0
        · rw [if_pos k0] at hbt
          obtain ⟨rfl, rfl⟩ := hbt
          have t0 : tkAt f n b = (0, 0, b) := by
            unfold tkAt at k0 ⊢
            by_cases z : b < n
            · exfalso
              rw [if_neg (fun y => y z)] at k0
              have q1 := timT_K f n b (rn f (isDg 10) (n - (b + 2)) (b + 2)) (dv f 10 (n - (b + 2)) (b + 2) 0)
              have q2 := numT_K f n b (rn f (isDg 10) (n - b) b) (dv f 10 (n - b) b 0)
              have q3 := plT_K f n b (rn f (isDg 10) (n - (b + 3)) (b + 3)) (dv f 10 (n - (b + 3)) (b + 3) 0)
              have q4 := sgT_K f n b
              repeat' split at k0
              all_goals first | omega | exact absurd k0 (by decide)
            · rw [if_pos z]
          have bn : b = n := by
            rcases Nat.lt_or_ge b n with z | z
            · exfalso
              unfold tkAt at t0
              rw [if_neg (fun y => y z)] at t0
              have q1 := timT_K f n b (rn f (isDg 10) (n - (b + 2)) (b + 2)) (dv f 10 (n - (b + 2)) (b + 2) 0)
              have q2 := numT_K f n b (rn f (isDg 10) (n - b) b) (dv f 10 (n - b) b 0)
              have q3 := plT_K f n b (rn f (isDg 10) (n - (b + 3)) (b + 3)) (dv f 10 (n - (b + 3)) (b + 3) 0)
              have q4 := sgT_K f n b
              have t1 := congrArg (fun z => z.1) t0
              dsimp only at t1
              repeat' split at t1
              all_goals first | omega | exact absurd t1 (by decide)
            · omega
          refine ⟨_, rfl, ?_⟩
          refine c19D xs (d + 5) _ _ _ _ (by rw [y_si_same]; decide) ?_
          refine fin m1 _ Ns hN (List.prefix_refl _) (fun _ _ _ _ => rfl) rfl (fun a a1 a2 => ?_) (fun a ha => ?_) rfl (fun i hi => ?_) ?_ ?_
          · funext i
            rw [y_si_at, if_neg (by omega), tkAdd_o (by omega) (by omega) (by omega) (by omega)]
          · funext i
            rw [y_si_at, if_neg (by omega), tkAdd_o (by omega) (by omega) (by omega) (by omega)]
          · simp only [y_si_at]
            obtain ⟨w1, w2, w3⟩ := tkAdd_t (m := m1) (k := t) (i := i) (x := 67) (y := nI n) (z := 0)
            rw [if_neg (by omega), if_neg (by omega), if_neg (by omega), w1, w2, w3]
            exact ⟨if_neg (by omega), if_neg (by omega), if_neg (by omega)⟩
          · unfold TkA
            rw [hx, t0, bn]
            simp only [y_si_at]
            obtain ⟨w1, w2, w3⟩ := tkAdd_t (m := m1) (k := t) (i := t) (x := 67) (y := nI n) (z := 0)
            rw [if_neg (by omega), w2, if_pos rfl]
            refine ⟨rfl, ?_⟩
            rw [if_neg (by decide), if_neg (by omega), if_neg (by omega), w1, w3, if_pos rfl, if_pos rfl]
            exact ⟨rfl, rfl⟩
          · unfold isEnd
            rw [hx, t0]
            exact Or.inl rfl
        · rw [if_neg k0] at hbt
          obtain ⟨z, hbt⟩ := hbt
          have sm : ∀ a i, a ≠ 8 → (y_si m1 8 7 z).1 a i = m1.1 a i := fun a i ha => by rw [y_si_at, if_neg (fun y => ha y.1)]
          by_cases k5 : (tkAt f n b).1 = 5
          · rw [if_pos k5] at hbt
            obtain ⟨rfl, rfl⟩ := hbt
            refine ⟨_, rfl, ?_⟩
            refine c19D xs (d + 5) _ _ _ _ (by rw [y_si_same]; decide) ?_
            refine fin (y_si m1 8 7 z) _ Ns (hN.kept (fun a a1 a2 => by funext i; exact sm a i (by omega))) (List.prefix_refl _) (fun a i ha _ => sm a i ha) rfl (fun a a1 a2 => ?_) (fun a ha => ?_) rfl (fun i hi => ?_) ?_ ?_
            · funext i
              rw [y_si_at, if_neg (by omega), tkAdd_o (by omega) (by omega) (by omega) (by omega)]
            · funext i
              rw [y_si_at, if_neg (by omega), tkAdd_o (by omega) (by omega) (by omega) (by omega)]
            · obtain ⟨w1, w2, w3⟩ := tkAdd_t (m := y_si m1 8 7 z) (k := t) (i := i) (x := ckd (tkAt f n b)) (y := nI b) (z := cvl (tkAt f n b))
              have o : ∀ a i, a ≠ 8 → (y_si (tkAdd (y_si m1 8 7 z) t (ckd (tkAt f n b)) (nI b) (cvl (tkAt f n b))) 8 8 1).1 a i = (tkAdd (y_si m1 8 7 z) t (ckd (tkAt f n b)) (nI b) (cvl (tkAt f n b))).1 a i := fun a i ha => by rw [y_si_at, if_neg (fun y => ha y.1)]
              rw [o 9 i (by decide), o 10 i (by decide), o 11 i (by decide), w1, w2, w3]
              exact ⟨if_neg (by omega), if_neg (by omega), if_neg (by omega)⟩
            · unfold TkA
              rw [hx]
              obtain ⟨w1, w2, w3⟩ := tkAdd_t (m := y_si m1 8 7 z) (k := t) (i := t) (x := ckd (tkAt f n b)) (y := nI b) (z := cvl (tkAt f n b))
              have o : ∀ a i, a ≠ 8 → (y_si (tkAdd (y_si m1 8 7 z) t (ckd (tkAt f n b)) (nI b) (cvl (tkAt f n b))) 8 8 1).1 a i = (tkAdd (y_si m1 8 7 z) t (ckd (tkAt f n b)) (nI b) (cvl (tkAt f n b))).1 a i := fun a i ha => by rw [y_si_at, if_neg (fun y => ha y.1)]
              rw [o 9 t (by decide), o 10 t (by decide), o 11 t (by decide), w1, w2, w3, if_pos rfl, if_pos rfl, if_pos rfl]
              refine ⟨rfl, ?_⟩
              rw [if_neg (show ¬ (tkAt f n b).1 = 1 by omega)]
              exact ⟨rfl, rfl⟩
            · unfold isEnd
              rw [hx]
              exact Or.inr k5
          · rw [if_neg k5] at hbt
            obtain ⟨rfl, rfl⟩ := hbt
            have adv := tkAt_adv k0 k5
            refine ⟨_, rfl, ?_⟩
            refine w19_66 xs (d + 5) _ _ _ _ ?_
            rw [nI_1, ← hps]
            refine ih (n - ps f n (t + 1)) (by omega) (t + 1) _ Ns (Nat.le_refl _) ⟨tkAdd_TX (hT.si (by decide) (Or.inr (by decide))), ?_, ?_, hN.kept (fun a a1 a2 => ?_), hP, ?_, by omega, by omega, fun i hi => ?_, fun a ha => ?_, h2⟩
            · simp [tkAdd, y_si_at]
            · rw [tkAdd_o (by decide) (by decide) (by decide) (by decide), y_si_at, if_neg (by decide)]
              exact h88
            · funext i
              rw [tkAdd_o (by omega) (by omega) (by omega) (by omega), sm a i (by omega)]
            · rw [hps]
              obtain ⟨c1, c2, c3⟩ := hc
              exact ⟨by omega, fun y => by omega, by omega⟩
            · obtain ⟨w1, w2, w3⟩ := tkAdd_t (m := y_si m1 8 7 z) (k := t) (i := i) (x := ckd (tkAt f n b)) (y := nI b) (z := cvl (tkAt f n b))
              rcases Nat.lt_or_ge i t with y | y
              · refine ⟨(hA i y).1.mono (List.prefix_refl _) ?_ ?_ ?_, (hA i y).2⟩
                · rw [w1, if_neg (by omega), sm 9 i (by decide)]
                · rw [w2, if_neg (by omega), sm 10 i (by decide)]
                · rw [w3, if_neg (by omega), sm 11 i (by decide)]
              · have e : i = t := by omega
                subst e
                refine ⟨?_, ?_⟩
                · unfold TkA
                  rw [hx, w1, w2, w3, if_pos rfl, if_pos rfl, if_pos rfl]
                  refine ⟨rfl, ?_⟩
                  rw [if_neg (show ¬ (tkAt f n b).1 = 1 by omega)]
                  exact ⟨rfl, rfl⟩
                · unfold isEnd
                  rw [hx]
                  show ¬ ((tkAt f n b).1 = 0 ∨ (tkAt f n b).1 = 5)
                  omega
            · funext i
              rw [tkAdd_o (by omega) (by omega) (by omega) (by omega), sm a i (by omega), hO a ha]
theorem c19 (xs : List Int32) (d : Nat) (m : yM) {f : Nat → Nat} {n : Nat} (hn : n ≤ 8192) (hf : ∀ i, i < n → f i < 256 ∧ m.1 1 i = (nI (f i)).toInt8.toInt32) (hst : m.1 14 0 = 0) : yC (xg xs) (d + 6) 19 [.ref 8, .ref 1, .int (nI n)] m (ScQ m f n) := by
  refine w19_0 xs (d + 5) _ m _ ?_
  refine yC.mono (by omega) ?_ (c20 xs d _ (by simp [y_si_at, hst]))
  rintro r m1 ⟨rfl, hN, hK⟩
  refine ⟨rfl, ?_⟩
  have e8 := hK.1 8 (by decide)
  have e1 := hK.1 1 (by decide)
  refine c19L xs d m n 0 m1 KN (by omega) ⟨⟨?_, ?_, hn, fun i hi => ⟨(hf i hi).1, ?_⟩⟩, ?_, ?_, hN, List.prefix_refl _, ⟨?_, fun _ _ => ?_, ?_⟩, Nat.zero_le _, Nat.zero_le _, fun i hi => absurd hi (Nat.not_lt_zero _), fun a ha => ?_, ?_⟩
  · rw [e8]; simp [y_si_at]
  · rw [e8]; simp [y_si_at]
  · rw [e1]; simp [y_si_at]; exact (hf i hi).2
  · rw [e8]; simp [y_si_at]; rfl
  · rw [e8]; simp [y_si_at]
  · rw [KN_len]; show 2 * 75 ≤ 150 + 0 + 1; omega
  · rename_i z _; rw [KN_len] at z; exact absurd z (by show ¬ 2 * 75 = 150 + 0 + 1; omega)
  · rw [KN_off]; exact Nat.le_add_right _ _
  · rw [hK.1 a (by omega)]
    rw [y_si_cell _ _ _ (by omega), y_si_cell _ _ _ (by omega), y_si_cell _ _ _ (by omega), y_si_cell _ _ _ (by omega)]
  · rw [hK.2]; rfl
