/-! THE REFERENCE'S RULES: a block begins -/
def nwV (m : yM) (v : Nat) (y : Int32) : yM := y_si (y_si (y_si (y_si (y_si (y_si m 75 v y) 76 v (-1)) 82 v (-1)) 83 v 0) 79 v 1) 58 30 (nI (v + 1))
theorem c326 (xs : List Int32) (d : Nat) {m : yM} {v : Nat} (hv : m.1 58 30 = nI v) (h : v < 4700) (y : Int32) : yC (xg xs) (d + 1) 326 [.ref 58, .int y] m (fun r m' => r = some (.int (nI v)) ∧ m' = nwV m v y) := by
  have x1 : x_in (nI v) 4700 = true := x_in_nI h (by decide)
  refine w326_0 xs d _ m _ ?_
  rw [hv, nI_clamp (by omega), nI_1]
  exact ⟨x1, x1, x1, x1, x1, rfl, rfl⟩
theorem nwV_at (m : yM) (v : Nat) (y : Int32) (a i : Nat) : (nwV m v y).1 a i = if a = 58 ∧ i = 30 then nI (v + 1) else if a = 79 ∧ i = v then 1 else if a = 83 ∧ i = v then 0 else if a = 82 ∧ i = v then -1 else if a = 76 ∧ i = v then -1 else if a = 75 ∧ i = v then y else m.1 a i := by
  unfold nwV
  simp only [y_si_at]
theorem bix_n {B : List BK} (hB : B.length ≤ 399) (x : Int32) : bix B x B.length = -1 ↔ ¬ ∃ a, a < B.length ∧ (B.getD a dBK).2.2.1 = x := by
  constructor
  · rintro e ⟨a, a1, a2⟩
    obtain ⟨z, z1, z2, z3⟩ := bix_v B x B.length a a1 a2
    rw [e] at z1
    exact nI_m1 (by omega) z1.symm
  · intro h
    rcases bix_c B x B.length with y | ⟨v, v1, v2, v3⟩
    · exact y
    · exact absurd ⟨v, v1, v3⟩ h
/-- the blocks' names as the reference has them -/
def BN (J : JV) (σ : RS) (m : yM) : Prop := m.1 58 23 = nI σ.1.length ∧ ∀ b, b < σ.1.length → NM J (σ.1.getD b dBK).2.2.1 (m.1 71 b)
theorem RB.bn {J : JV} {σ : RS} {m : yM} (h : RB J σ m) : BN J σ m := ⟨h.nB.1, fun b hb => (h.b hb).2.2.1⟩
theorem BN.fl {J : JV} {σ : RS} {m : yM} (h : BN J σ m) (c : Int32) (n : Nat) : BN J σ (flM2 J m c n) := by
  unfold flM2
  refine ⟨by rw [y_si_at, if_neg (by omega), y_si_at, if_neg (by omega)]; exact h.1, fun b hb => ?_⟩
  rw [y_si_at, if_neg (by omega), y_si_at, if_neg (by omega)]
  exact h.2 b hb
/-- is one of the blocks from b on so named -/
def agA (σ : RS) (x : Int32) : Nat → Nat → Int32 → Int32
  | 0 => fun _ u => u
  | q + 1 => fun b u => agA σ x q (b + 1) (if u = 0 ∧ ¬ (σ.1.getD b dBK).2.2.1 = x then 0 else 1)
theorem agA_c (σ : RS) (x : Int32) : ∀ q b u, (u = 0 ∨ u = 1) → (agA σ x q b u = 0 ∧ u = 0 ∧ ∀ a, b ≤ a → a < b + q → ¬ (σ.1.getD a dBK).2.2.1 = x) ∨ (agA σ x q b u = 1 ∧ (u = 1 ∨ ∃ a, b ≤ a ∧ a < b + q ∧ (σ.1.getD a dBK).2.2.1 = x))
  | 0, b, u, hu => by
    rcases hu with rfl | rfl
    · exact Or.inl ⟨rfl, rfl, fun a h1 h2 => by omega⟩
    · exact Or.inr ⟨rfl, Or.inl rfl⟩
  | q + 1, b, u, hu => by
    have es : agA σ x (q + 1) b u = agA σ x q (b + 1) (if u = 0 ∧ ¬ (σ.1.getD b dBK).2.2.1 = x then 0 else 1) := rfl
    rw [es]
    by_cases e : u = 0 ∧ ¬ (σ.1.getD b dBK).2.2.1 = x
    · rw [if_pos e]
      rcases agA_c σ x q (b + 1) 0 (Or.inl rfl) with ⟨y1, y2, y3⟩ | ⟨y1, y2⟩
      · refine Or.inl ⟨y1, e.1, fun a h1 h2 => ?_⟩
        by_cases z : a = b
        · rw [z]; exact e.2
        · exact y3 a (by omega) (by omega)
      · refine Or.inr ⟨y1, Or.inr ?_⟩
        rcases y2 with y | ⟨a, a1, a2, a3⟩
        · exact absurd y (by decide)
        · exact ⟨a, by omega, by omega, a3⟩
    · rw [if_neg e]
      rcases agA_c σ x q (b + 1) 1 (Or.inr rfl) with ⟨y1, y2, y3⟩ | ⟨y1, y2⟩
      · exact absurd y2 (by decide)
      · refine Or.inr ⟨y1, ?_⟩
        rcases hu with rfl | rfl
        · refine Or.inr ⟨b, Nat.le_refl _, by omega, ?_⟩
          by_cases z : (σ.1.getD b dBK).2.2.1 = x
          · exact z
          · exact absurd ⟨rfl, z⟩ e
        · exact Or.inl rfl
theorem agA_0 {σ : RS} {x : Int32} (hB : σ.1.length ≤ 399) {p : Prop} [Decidable p] : agA σ x σ.1.length 0 (if p then 1 else 0) = if p ∨ ¬ bix σ.1 x σ.1.length = -1 then 1 else 0 := by
  have b := bix_n hB x
  rcases agA_c σ x σ.1.length 0 (if p then 1 else 0) (by split <;> simp) with ⟨y1, y2, y3⟩ | ⟨y1, y2⟩
  · rw [y1, if_neg]
    rintro (z | z)
    · rw [if_pos z] at y2; exact absurd y2 (by decide)
    · exact z (b.mpr (fun ⟨a, a1, a2⟩ => y3 a (Nat.zero_le _) (by omega) a2))
  · rw [y1, if_pos]
    rcases y2 with y | ⟨a, a1, a2, a3⟩
    · left
      by_cases z : p
      · exact z
      · rw [if_neg z] at y; exact absurd y (by decide)
    · exact Or.inr (fun z => b.mp z ⟨a, by omega, a3⟩)
/-- a block more -/
theorem RB.bg {J : JV} {D : Nat → Prop} {σ : RS} {m m' : yM} (h : RB J σ m) (hB : σ.1.length < 399) (hn3 : ¬ inB σ 3) {n : Nat} (hn : n < J.2.2.1.length) {k : Nat} (hk : kK J.2.2.1 n = k) {x y : Int32} (hx : NM J x y) (g : ∀ a i, 69 < a → a < 84 → ¬ ((a = 70 ∨ a = 71 ∨ a = 72 ∨ a = 73) ∧ i = σ.1.length) → m'.1 a i = m.1 a i) (g3 : m'.1 58 3 = 0) (g30 : m'.1 58 30 = m.1 58 30) (g23 : m'.1 58 23 = nI (σ.1.length + 1)) (g29 : m'.1 58 29 = if k = 3 then 1 else 0) (q1 : m'.1 70 σ.1.length = nI (J.2.2.2 n)) (q2 : m'.1 71 σ.1.length = y) {c : Int32} (q3 : m'.1 72 σ.1.length = c) (q4 : m'.1 73 σ.1.length = nI σ.2.1.length) : RB J (σ.1 ++ [(nI k, n, x, c, σ.2.1.length)], σ.2) m' := by
  obtain ⟨⟨a1, a2, a3, a4, a5, a6⟩, b, v⟩ := h
  have cur : curB (σ.1 ++ [(nI k, n, x, c, σ.2.1.length)], σ.2) = (nI k, n, x, c, σ.2.1.length) := by
    unfold curB
    rw [List.length_append, List.length_singleton, Nat.add_sub_cancel, getD_app, if_neg (by omega), if_pos rfl]
  have kl : k < 100 ∨ ¬ k < 100 := by omega
  refine ⟨⟨g3, by simp only [List.length_append, List.length_singleton]; omega, a3, by simp only [List.length_append, List.length_singleton]; exact g23, g30.trans a5, ?_⟩, fun e z hz => ?_, fun u z hz => ?_⟩
  · rw [g29]
    unfold inB
    rw [cur]
    have : (0 < (σ.1 ++ [(nI k, n, x, c, σ.2.1.length)], σ.2).1.length ∧ nI k = 3) ↔ k = 3 := by
      constructor
      · rintro ⟨-, q⟩
        have hk37 : k < 2 ^ 31 := by
          have := (b 0)
          rw [← hk]
          unfold kK
          exact Int32.toNatClampNeg_lt _
        exact (nI_eq (a := k) (b := 3) hk37 (by omega)).mp q
      · rintro rfl
        exact ⟨by simp, rfl⟩
    by_cases q : k = 3
    · rw [if_pos q, if_pos (this.mpr q)]
    · rw [if_neg q, if_neg (fun z => q (this.mp z))]
  · show _ ∧ _ ∧ _ ∧ _ ∧ _ ∧ z.2.2.2.2 ≤ σ.2.1.length ∧ _
    rcases Nat.lt_or_ge e σ.1.length with y1 | y1
    · rw [List.getElem?_append_left y1] at hz
      rw [g 70 e (by omega) (by omega) (by omega), g 71 e (by omega) (by omega) (by omega), g 72 e (by omega) (by omega) (by omega), g 73 e (by omega) (by omega) (by omega)]
      exact b e z hz
    · rw [List.getElem?_append_right y1] at hz
      have e1 : e = σ.1.length := by
        have := (List.getElem?_eq_some_iff.mp hz).1
        simp at this
        omega
      subst e1
      rw [Nat.sub_self] at hz
      simp only [List.getElem?_cons_zero, Option.some.injEq] at hz
      subst hz
      rw [q1, q2, q3, q4]
      exact ⟨hn, rfl, hx, rfl, rfl, Nat.le_refl _, by rw [hk]⟩
  · have ul := (List.getElem?_eq_some_iff.mp hz).1
    have ul : u < σ.2.1.length := ul
    obtain ⟨c1, c2, c3⟩ := v u z hz
    have gg : ∀ a, 74 < a → a < 84 → m'.1 a u = m.1 a u := fun a x1 x2 => g a u (by omega) (by omega) (by omega)
    refine ⟨by rw [gg 75 (by omega) (by omega)]; exact c1, fun e => ?_, fun w e => ?_⟩
    · unfold vuR
      rw [gg 76 (by omega) (by omega), gg 79 (by omega) (by omega), gg 82 (by omega) (by omega), gg 83 (by omega) (by omega)]
      exact c2 e
    · obtain ⟨w1, w2, w3, w4, w5, w6⟩ := c3 w e
      unfold vdR tyR atR
      rw [gg 76 (by omega) (by omega), gg 77 (by omega) (by omega), gg 78 (by omega) (by omega), gg 79 (by omega) (by omega), gg 80 (by omega) (by omega), gg 81 (by omega) (by omega), gg 82 (by omega) (by omega), gg 83 (by omega) (by omega)]
      refine ⟨w1, w2, w3, w4, w5, Or.inl ⟨?_, fun _ lt => ?_⟩⟩
      · rcases w6 with q | ⟨_, _, _, _, _, _, _, q⟩
        · exact q.1
        · exact absurd q hn3
      · rw [cur] at lt
        have lt : σ.2.1.length ≤ u := lt
        omega
