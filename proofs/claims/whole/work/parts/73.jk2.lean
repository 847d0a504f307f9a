/-! THE REFERENCE'S RULES: the text; own cells -/
def aS (σ : RS) : Nat → Nat → Int32 → Int32
  | 0 => fun _ a => a
  | q + 1 => fun b a => aS σ q (b + 1) (a + (if (σ.1.getD b dBK).1 = 2 then 0 else cB σ b))
theorem aS_e (σ : RS) : ∀ q b a, aS σ (q + 1) b a = aS σ q b a + (if (σ.1.getD (b + q) dBK).1 = 2 then 0 else cB σ (b + q))
  | 0, b, a => rfl
  | q + 1, b, a => by
    show aS σ (q + 1) (b + 1) (a + (if (σ.1.getD b dBK).1 = 2 then 0 else cB σ b)) = _
    rw [aS_e σ q (b + 1), show b + 1 + q = b + (q + 1) by omega]
    rfl
theorem aS_b (σ : RS) : ∀ q b a, (∀ c, b ≤ c → c < b + q → (σ.1.getD c dBK).1 = 1 ∨ (σ.1.getD c dBK).1 = 2) → aS σ q b a + bsA σ b = a + bsA σ (b + q)
  | 0, b, a, _ => rfl
  | q + 1, b, a, h => by
    have ih := aS_b σ q (b + 1) (a + (if (σ.1.getD b dBK).1 = 2 then 0 else cB σ b)) (fun c z1 z2 => h c (by omega) (by omega))
    show aS σ q (b + 1) (a + (if (σ.1.getD b dBK).1 = 2 then 0 else cB σ b)) + bsA σ b = _
    have e1 : bsA σ (b + 1) = if (σ.1.getD b dBK).1 = 1 then bsA σ b + cB σ b else bsA σ b := rfl
    rw [show b + 1 + q = b + (q + 1) by omega] at ih
    rcases h b (Nat.le_refl _) (by omega) with k | k
    · rw [e1, if_pos k, k, if_neg (by decide)] at ih
      rw [k, if_neg (by decide)]
      have : aS σ q (b + 1) (a + cB σ b) + bsA σ b + cB σ b = a + bsA σ (b + (q + 1)) + cB σ b := by
        rw [Int32.add_assoc, ih, Int32.add_assoc, Int32.add_assoc, Int32.add_comm (cB σ b)]
      exact (Int32.add_left_inj _).mp this
    · rw [e1, k, if_pos rfl, if_neg (by decide)] at ih
      rw [k, if_pos rfl]
      rw [ih, Int32.add_zero]
theorem c328m (xs : List Int32) (d : Nat) {J : JV} {σ : RS} {m0 m : yM} (hT : JT J m) (h : RB J σ m0) (g : ∀ a i, 69 < a → a < 75 → m.1 a i = m0.1 a i) (g23 : m.1 58 23 = m0.1 58 23) : yC (xg xs) (d + 1) 328 [.ref 58] m (fun r m' => r = some (.int (aS σ σ.1.length 0 0)) ∧ m' = m) := by
  obtain ⟨n1, n2⟩ := h.nB
  rw [← g23] at n1
  have lp : ∀ (q b : Nat) (a : Int32), b + q = σ.1.length → yP (xg xs) (d + 1) 328 4 [(0, .ref 58), (1, .int a), (2, .int (nI b))] [] m (fun r m' => r = some (.int (aS σ q b a)) ∧ m' = m) := by
    intro q
    induction q with
    | zero =>
      intro b a hb
      refine w328_4 xs d _ _ m _ ⟨fun _ => ⟨rfl, rfl⟩, fun z => absurd ?_ z⟩
      rw [n1]; exact nI_le (by omega) (by omega)
    | succ q ih =>
      intro b a hb
      have bb := h.b (show b < σ.1.length by omega)
      rw [← g 70 b (by omega) (by omega), ← g 72 b (by omega) (by omega)] at bb
      have nx := hT.2.1 _ bb.1
      have es : aS σ (q + 1) b a = aS σ q (b + 1) (a + (if (σ.1.getD b dBK).1 = 2 then 0 else cB σ b)) := rfl
      rw [es]
      have xb : x_in (nI b) 400 = true := x_in_nI (by omega) (by decide)
      refine w328_4 xs d _ _ m _ ⟨fun z => ?_, fun _ => ⟨xb, ?_⟩⟩
      · rw [n1] at z
        have := (nI_leI (by omega) (by omega)).mp z
        omega
      · rw [nI_clamp (by omega), bb.2.1, hT.c bb.1, nx.2.1, ← bb.2.2.2.2.2.2, bb.2.2.2.1]
        refine ⟨hT.x bb.1, fun z => ⟨xb, ?_⟩, fun z => ?_⟩
        · rw [if_neg z]
          refine w328_38 xs d _ _ _ m _ ?_
          rw [nI_1]
          exact ih (b + 1) _ (by omega)
        · rw [if_pos z]
          refine w328_38 xs d _ _ _ m _ ?_
          rw [nI_1]
          exact ih (b + 1) _ (by omega)
  exact w328_0 xs d m _ (lp _ 0 0 (by omega))
theorem jk23 (J : JV) (m : yM) (c : Int32) (n : Nat) (b : Bool) : (flb J m c n b).1 58 23 = m.1 58 23 := by
  cases b
  · rfl
  · rw [flb_t]
    unfold flM2
    rw [y_si_at, if_neg (by omega), y_si_at, if_neg (by omega)]
theorem c327_0 (xs : List Int32) (d : Nat) {J : JV} {D : Nat → Prop} {σ : RS} {m : yM} (h : RJ J D σ m) {n : Nat} (hn : n < J.2.2.1.length) (hk : ∀ b, b + 1 < σ.1.length → (σ.1.getD b dBK).1 = 1 ∨ (σ.1.getD b dBK).1 = 2) : yC (xg xs) (d + 2) 327 [.ref 58, .int (nI (J.2.2.2 n)), .int 0] m (JQ J D m n (lkText σ)) := by
  have hT := h.1
  have hR := h.2.1
  have e29 := hR.1.2.2.2.2.2
  unfold lkText
  have s75 : ∀ (u : Int32) (b : Bool), u = (if b = true then 1 else 0) → b = decide (¬ inB σ 3) → yP (xg xs) (d + 2) 327 75 [(0, .ref 58), (1, .int (nI (J.2.2.2 n)))] [.int u, .int (10 : Int32), .ref 58] m (JQ J D m n (if inB σ 3 then (if bsA σ (σ.1.length - 1) ≤ 8192 then .inl σ else .inr 42) else .inr 10)) := by
    intro u b hu hb
    refine w327_75 xs (d + 1) _ _ _ m _ (rlb (by omega) (by decide) hT hn hR.f0 false b hu ?_)
    rw [Bool.false_or]
    have jk : JK m (flb J m 10 n b) := (JK.re m).fb J 10 n b
    refine y_ci (c328m xs d (hT.k jk) hR (fun a i z1 z2 => flb_at _ _ _ _ _ _ _ (by omega)) (jk23 J m 10 n b)) (by omega) ?_
    by_cases ib : inB σ 3
    · rw [if_pos ib, hb, decide_eq_false (fun z => z ib), flb_f]
      have h0 := ib.1
      have e : aS σ σ.1.length 0 0 = bsA σ (σ.1.length - 1) := by
        obtain ⟨k, ek⟩ : ∃ k, σ.1.length = k + 1 := ⟨σ.1.length - 1, by omega⟩
        rw [ek, aS_e, Nat.zero_add]
        have l3 : (σ.1.getD k dBK).1 = 3 := by
          have := ib.2
          unfold curB at this
          rw [ek] at this
          exact this
        rw [l3, if_neg (by decide)]
        have := aS_b σ k 0 0 (fun c z1 z2 => hk c (by omega))
        rw [Nat.zero_add, Int32.zero_add] at this
        rw [show k + 1 - 1 = k by omega, ← this]
        have e0 : bsA σ 0 = cB σ (σ.1.length - 1) := rfl
        rw [e0, ek]
        rfl
      rw [e]
      refine ⟨fun z => ?_, fun z => ?_⟩
      · rw [if_pos z]
        exact w327_97 xs (d + 1) _ _ _ m _ (rl0 ⟨rfl, JK.re m, h⟩)
      · rw [if_neg z]
        exact w327_97 xs (d + 1) _ _ _ m _ (rl1 (by omega) hT hn hR.f0 ⟨rfl, (JK.re m).fl J 42 n, FE.mk J m (by decide) n⟩)
    · rw [if_neg ib, hb, decide_eq_true ib, flb_t]
      have fe := FE.mk J m (show (0 : Int32) < 10 by decide) n
      have jk2 := (JK.re m).fl J 10 n
      exact ⟨fun _ => w327_97 xs (d + 1) _ _ _ _ _ (rl0 ⟨rfl, jk2, fe⟩), fun _ => w327_97 xs (d + 1) _ _ _ _ _ (rl2 (by omega) (hT.i hn) (Or.inr rfl) fe.ne ⟨rfl, jk2, fe⟩)⟩
  refine w327_0 xs (d + 1) _ _ m _ ⟨fun _ => ?_, fun w => absurd w (by decide), fun w => absurd w (by decide), fun w => absurd w (by decide), fun w => absurd w (by decide), fun w => absurd w (by decide), fun w => absurd w (by decide), fun w => absurd w (by decide), fun w => absurd w (by decide), fun w => absurd w (by decide), fun w => absurd rfl w⟩
  rw [e29]
  by_cases ib : inB σ 3
  · rw [if_pos ib]
    exact ⟨fun _ => s75 0 false rfl (decide_eq_false (fun z => z ib)).symm, fun z => absurd z (by decide)⟩
  · rw [if_neg ib]
    exact ⟨fun z => absurd rfl z, fun _ => s75 1 true rfl (decide_eq_true ib).symm⟩
/-- the nodes of a range that want a cell of their own get it -/
def ownG (p : Nat → Bool) (b : Nat) : Nat → Nat → RS → RS
  | 0, _, σ => σ
  | n + 1, i, σ => ownG p b n (i + 1) (if p i = true then bump σ b i else σ)
theorem ownG_a (p : Nat → Bool) (b : Nat) : ∀ a c i σ, ownG p b (a + c) i σ = ownG p b c (i + a) (ownG p b a i σ)
  | 0, c, i, σ => by rw [Nat.zero_add]; rfl
  | a + 1, c, i, σ => by
    rw [show a + 1 + c = (a + c) + 1 by omega]
    show ownG p b (a + c) (i + 1) _ = ownG p b c (i + (a + 1)) (ownG p b a (i + 1) _)
    rw [ownG_a p b a c (i + 1), show i + 1 + a = i + (a + 1) by omega]
theorem ownG_k (p : Nat → Bool) (b : Nat) : ∀ n i σ, (ownG p b n i σ).2.2.1 = σ.2.2.1 ∧ (ownG p b n i σ).2.2.2.1 = σ.2.2.2.1 ∧ (ownG p b n i σ).1.length = σ.1.length ∧ (ownG p b n i σ).2.1 = σ.2.1
  | 0, i, σ => ⟨rfl, rfl, rfl, rfl⟩
  | n + 1, i, σ => by
    obtain ⟨h1, h2, h3, h4⟩ := ownG_k p b n (i + 1) (if p i = true then bump σ b i else σ)
    refine ⟨h1.trans ?_, h2.trans ?_, h3.trans ?_, h4.trans ?_⟩
    · split <;> rfl
    · split <;> rfl
    · split
      · exact setC_l _ _ _
      · rfl
    · split <;> rfl
theorem own1_g (p : Nat → Bool) (b : Nat) : ∀ n i σ, (∀ j, i ≤ j → j < i + n → (p j = true ↔ (σ.2.2.1 j = 16 ∨ σ.2.2.1 j = 19))) → own1 b n i σ = ownG p b n i σ
  | 0, i, σ, _ => rfl
  | n + 1, i, σ, h => by
    show own1 b n (i + 1) (if σ.2.2.1 i = 16 ∨ σ.2.2.1 i = 19 then bump σ b i else σ) = ownG p b n (i + 1) (if p i = true then bump σ b i else σ)
    have e : (if σ.2.2.1 i = 16 ∨ σ.2.2.1 i = 19 then bump σ b i else σ) = (if p i = true then bump σ b i else σ) := by
      have := h i (Nat.le_refl _) (by omega)
      by_cases q : p i = true
      · rw [if_pos q, if_pos (this.mp q)]
      · rw [if_neg q, if_neg (fun z => q (this.mpr z))]
    rw [e]
    refine own1_g p b n (i + 1) _ (fun j z1 z2 => ?_)
    have ek : (if p i = true then bump σ b i else σ).2.2.1 = σ.2.2.1 := by split <;> rfl
    rw [ek]
    exact h j (by omega) (by omega)
theorem own2_g (p : Nat → Bool) (b : Nat) : ∀ n i σ, (∀ j, i ≤ j → j < i + n → (p j = true ↔ (σ.2.2.1 j = 25 ∧ ¬ σ.2.2.2.1 j < 2))) → own2 b n i σ = ownG p b n i σ
  | 0, i, σ, _ => rfl
  | n + 1, i, σ, h => by
    show own2 b n (i + 1) (if σ.2.2.1 i = 25 ∧ ¬ σ.2.2.2.1 i < 2 then bump σ b i else σ) = ownG p b n (i + 1) (if p i = true then bump σ b i else σ)
    have e : (if σ.2.2.1 i = 25 ∧ ¬ σ.2.2.2.1 i < 2 then bump σ b i else σ) = (if p i = true then bump σ b i else σ) := by
      have := h i (Nat.le_refl _) (by omega)
      by_cases q : p i = true
      · rw [if_pos q, if_pos (this.mp q)]
      · rw [if_neg q, if_neg (fun z => q (this.mpr z))]
    rw [e]
    refine own2_g p b n (i + 1) _ (fun j z1 z2 => ?_)
    have ek : (if p i = true then bump σ b i else σ).2.2.1 = σ.2.2.1 := by split <;> rfl
    have ev : (if p i = true then bump σ b i else σ).2.2.2.1 = σ.2.2.2.1 := by split <;> rfl
    rw [ek, ev]
    exact h j (by omega) (by omega)
/-- the least that is left alone -/
def JX (m m' : yM) : Prop := (∀ a i, a ≠ 58 → a < 70 ∨ a = 74 ∨ 88 < a → m'.1 a i = m.1 a i) ∧ (∀ i, ¬ (i = 3 ∨ i = 4 ∨ i = 23 ∨ i = 29 ∨ i = 30) → m'.1 58 i = m.1 58 i) ∧ m'.2 = m.2
theorem JX.re (m : yM) : JX m m := ⟨fun _ _ _ _ => rfl, fun _ _ => rfl, rfl⟩
theorem JX.tr {m m1 m2 : yM} (h : JX m m1) (h2 : JX m1 m2) : JX m m2 := ⟨fun a i x y => by rw [h2.1 a i x y, h.1 a i x y], fun i x => by rw [h2.2.1 i x, h.2.1 i x], h2.2.2.trans h.2.2⟩
theorem JX.si {m m' : yM} (h : JX m m') {k i : Nat} {v : Int32} (hk : (69 < k ∧ k < 89 ∧ k ≠ 74) ∨ (k = 58 ∧ (i = 3 ∨ i = 4 ∨ i = 23 ∨ i = 29 ∨ i = 30))) : JX m (y_si m' k i v) := ⟨fun a b x y => by rw [y_si_at, if_neg (by omega)]; exact h.1 a b x y, fun b x => by rw [y_si_at, if_neg (by omega)]; exact h.2.1 b x, h.2.2⟩
theorem JT.kx {J : JV} {m m' : yM} (h : JT J m) (k : JX m m') : JT J m' := h.fr (fun a i x y => k.1 a i (by omega) (by omega)) (k.2.1 12 (by omega))
theorem JK.x {m m' : yM} (h : JK m m') : JX m m' := ⟨fun a i x y => h.1 a i x (by omega), h.2⟩
theorem JW.x {m m' : yM} (h : JW m m') : JX m m' := ⟨fun a i x y => h.1 a i x (by omega), h.2⟩
theorem JP.x {p : Nat} {m m' : yM} (h : JP p m m') : JX m m' := ⟨fun a i x y => h.1 a i x (by omega), h.2⟩
/-- own cells that are given -/
def OE (J : JV) (E : Nat → Prop) (σ : RS) (m : yM) : Prop := ∀ i, E i → i < J.2.2.1.length ∧ (kK J.2.2.1 i = 16 ∨ kK J.2.2.1 i = 19 ∨ kK J.2.2.1 i = 25) ∧ m.1 86 (J.2.2.2 i) = σ.2.2.2.2 i
def OQ (J : JV) (D E : Nat → Prop) (b : Nat) (σ : RS) (m : yM) : Prop := RJ J D σ m ∧ b + 1 = σ.1.length ∧ OE J E σ m
/-- one more cell -/
theorem OQ.b {J : JV} {D E : Nat → Prop} {b : Nat} {σ : RS} {m : yM} (h : OQ J D E b σ m) {i : Nat} (hi : i < J.2.2.1.length) (hk : kK J.2.2.1 i = 16 ∨ kK J.2.2.1 i = 19 ∨ kK J.2.2.1 i = 25) (hE : ¬ E i) : OQ J D (fun j => E j ∨ j = i) b (bump σ b i) (y_si (y_si m 86 (J.2.2.2 i) (m.1 72 b)) 72 b (m.1 72 b + 1)) := by
  obtain ⟨⟨hT, hR, hD⟩, hb, hE'⟩ := h
  have bl : b < σ.1.length := by omega
  have e72 : m.1 72 b = cB σ b := (hR.b bl).2.2.2.1
  have jx : JX m (y_si (y_si m 86 (J.2.2.2 i) (m.1 72 b)) 72 b (m.1 72 b + 1)) := ((JX.re m).si (by omega)).si (by omega)
  have inj : ∀ j, j < J.2.2.1.length → ¬ j = i → ¬ J.2.2.2 j = J.2.2.2 i := fun j hj ne z => ne (hT.2.2.1 j i hj hi z)
  refine ⟨⟨hT.kx jx, ?_, fun j hj => ?_⟩, ?_, fun j hj => ?_⟩
  · have r1 : RB J (setT σ i (cB σ b)) m := hR.nd rfl rfl (fun t ht => ⟨rfl, rfl, upI_o _ _ (fun e => by subst e; omega)⟩) (fun t ht => rfl) (fun _ _ _ _ => rfl) (fun _ _ => rfl)
    refine RB.sc r1 bl (c := cB σ b + 1) (fun a x z1 z2 z3 => ?_) (fun x hx => ?_) ?_
    · rw [y_si_at, if_neg z3, y_si_at, if_neg (by omega)]
    · rw [y_si_at, if_neg (by omega), y_si_at, if_neg (by omega)]
    · rw [y_si_same, e72]
  · obtain ⟨d1, d2⟩ := hD j hj
    refine ⟨d1, ?_⟩
    by_cases e : j = i
    · subst e
      obtain ⟨c1, c2, c3, c4⟩ := d2
      refine ⟨fun z => by omega, fun z => ?_, fun z => by omega, fun z => by omega⟩
      rw [y_si_at, if_neg (by omega), y_si_at, if_neg (by omega)]
      exact c2 z
    · refine d2.fr rfl rfl (upI_o _ _ e) (fun a z1 z2 => ?_)
      have := inj j d1 e
      rw [y_si_at, if_neg (by omega), y_si_at, if_neg (by omega)]
  · show b + 1 = (setC (setT σ i (cB σ b)) b (cB σ b + 1)).1.length
    rw [setC_l]
    exact hb
  · rcases hj with hj | rfl
    · obtain ⟨e1, e2, e3⟩ := hE' j hj
      have ne : ¬ j = i := fun e => hE (e ▸ hj)
      have := inj j e1 ne
      refine ⟨e1, e2, ?_⟩
      rw [y_si_at, if_neg (by omega), y_si_at, if_neg (by omega), e3]
      exact (upI_o _ _ ne).symm
    · refine ⟨hi, hk, ?_⟩
      rw [y_si_at, if_neg (by omega), y_si_same, e72]
      exact (upI_n _ _ _).symm
