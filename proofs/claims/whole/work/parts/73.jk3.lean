/-! THE REFERENCE'S RULES: own cells of a block -/
theorem OQ.mono {J : JV} {D E E' : Nat → Prop} {b : Nat} {σ : RS} {m : yM} (h : OQ J D E b σ m) (hE : ∀ i, E' i → E i) : OQ J D E' b σ m := ⟨h.1, h.2.1, fun i hi => h.2.2 i (hE i hi)⟩
/-- which nodes want a cell -/
def pOw (J : JV) (l2 : Int32) (p : Nat → Bool) : Prop := (l2 = 0 ∧ ∀ i, i < J.2.2.1.length → (p i = true ↔ (kK J.2.2.1 i = 16 ∨ kK J.2.2.1 i = 19))) ∨ (l2 = 1 ∧ ∀ i, i < J.2.2.1.length → (p i = true ↔ (kK J.2.2.1 i = 25 ∧ ¬ vF J.2.2.1 i ≤ 1)))
theorem c330 (xs : List Int32) (d : Nat) {J : JV} {m0 : yM} {T : Nat} {D : Nat → Prop} {b : Nat} {p : Nat → Bool} {l2 : Int32} (hl : pOw J l2 p) (h25 : ∀ i, i < J.2.2.1.length → kK J.2.2.1 i = 25 → vtF J.2.2.1 i = 0) : ∀ (N n : Nat) (σ : RS) (m : yM) (E : Nat → Prop), TW m0 T J.2.2.1 N n → OQ J D E b σ m → (∀ i, n ≤ i → i < n + szF J.2.2.1 n → p i = true → ¬ E i) → yC (xg xs) (d + N) 330 [.ref 58, .int (nI (J.2.2.2 n)), .int l2] m (fun r m' => r = none ∧ JX m m' ∧ OQ J D (fun j => E j ∨ (n ≤ j ∧ j < n + szF J.2.2.1 n ∧ p j = true)) b (ownG p b (szF J.2.2.1 n) n σ) m') := by
  intro N
  induction N with
  | zero => intro n σ m E h; exact absurd h (fun z => z)
  | succ N ih =>
    intro n σ m E hW hQ hE
    obtain ⟨w1, w2, w3, w4, w5, w6, w7⟩ := hW
    have hn : n < J.2.2.1.length := by omega
    have hT := hQ.1.1
    have hi := hT.i hn
    -- the nodes below
    have kd : ∀ (K : List Nat) (j i : Nat) (σ : RS) (m : yM) (E : Nat → Prop), (kids J.2.2.1 n).drop j = K → tile J.2.2.1 K i (n + szF J.2.2.1 n) → n < i → OQ J D E b σ m → (∀ x, i ≤ x → x < n + szF J.2.2.1 n → p x = true → ¬ E x) → yP (xg xs) (d + N + 1) 330 105 [(0, .ref 58), (2, .int l2), (4, .int (lkI J.2.2.2 (kids J.2.2.1 n)[j]?))] [] m (fun r m' => r = none ∧ JX m m' ∧ OQ J D (fun x => E x ∨ (i ≤ x ∧ x < n + szF J.2.2.1 n ∧ p x = true)) b (ownG p b (n + szF J.2.2.1 n - i) i σ) m') := by
      intro K
      induction K with
      | nil =>
        intro j i σ m E e ht _ hQ _
        have : (kids J.2.2.1 n)[j]? = none := by
          rw [List.getElem?_eq_none_iff]
          exact List.drop_eq_nil_iff.mp e
        rw [this]
        have ht : i = n + szF J.2.2.1 n := ht
        refine w330_105 xs (d + N) _ _ m _ ⟨fun _ => ⟨rfl, JX.re m, ?_⟩, fun z => absurd rfl z⟩
        rw [ht, Nat.sub_self]
        exact hQ.mono (fun x hx => hx.resolve_right (fun y => by omega))
      | cons c K ihK =>
        intro j i σ m E e ht hni hQ hE
        have hj : (kids J.2.2.1 n)[j]? = some c := by
          have := congrArg (fun l => l[0]?) e
          simpa using this
        have e' : (kids J.2.2.1 n).drop (j + 1) = K := by
          have := congrArg (List.drop 1) e
          rw [List.drop_drop] at this
          simpa using this
        obtain ⟨rfl, ht⟩ := ht
        have le := tile.le ht
        have hTm := hQ.1.1
        obtain ⟨c1, c2, c3⟩ := hTm.kc hn hj
        have tw := w7 c (List.mem_of_getElem? hj)
        have e4 : lkI J.2.2.2 (kids J.2.2.1 n)[j]? = nI (J.2.2.2 c) := by rw [hj]; rfl
        rw [e4]
        refine w330_105 xs (d + N) _ _ m _ ⟨fun z => absurd z (nI_m1 (by have := hTm.i c1; omega)), fun _ => ?_⟩
        refine yC.mono (Nat.le_refl _) (fun r m1 q => ?_) (ih c σ m E tw hQ (fun x z1 z2 z3 => hE x z1 (by omega) z3))
        obtain ⟨q1, q2, q3⟩ := q
        refine ⟨q1, hTm.x c1, ?_⟩
        have hT1 := q3.1.1
        rw [hTm.c c1, (hT1.kc hn hj).2.2]
        refine yP.mono (Nat.le_refl _) (fun r2 m2 q => ?_) (ihK (j + 1) (c + szF J.2.2.1 c) _ m1 _ e' ht (by omega) q3 (fun x z1 z2 z3 => ?_))
        · obtain ⟨o1, o2, o3⟩ := q
          refine ⟨o1, q2.tr o2, ?_⟩
          rw [← ownG_a, show szF J.2.2.1 c + (n + szF J.2.2.1 n - (c + szF J.2.2.1 c)) = n + szF J.2.2.1 n - c by omega] at o3
          refine o3.mono (fun x hx => ?_)
          rcases hx with hx | ⟨x1, x2, x3⟩
          · exact Or.inl (Or.inl hx)
          · rcases Nat.lt_or_ge x (c + szF J.2.2.1 c) with y | y
            · exact Or.inl (Or.inr ⟨x1, y, x3⟩)
            · exact Or.inr ⟨y, x2, x3⟩
        · rintro (y | ⟨y1, y2, y3⟩)
          · exact hE x (by omega) z2 z3 y
          · omega
    have xi := hT.x hn
    have ei := hT.c hn
    have n62 := (hT.2.1 n hn).2.1
    -- the node itself is done
    have s97 : ∀ (σ1 : RS) (m1 : yM) (E1 : Nat → Prop), JX m m1 → OQ J D E1 b σ1 m1 → (∀ x, n < x → x < n + szF J.2.2.1 n → p x = true → ¬ E1 x) → (∀ x, E x → E1 x) → (p n = true → E1 n) → ownG p b (szF J.2.2.1 n) n σ = ownG p b (n + szF J.2.2.1 n - (n + 1)) (n + 1) σ1 → yP (xg xs) (d + N + 1) 330 97 [(0, .ref 58), (1, .int (nI (J.2.2.2 n))), (2, .int l2)] [] m1 (fun r m' => r = none ∧ JX m m' ∧ OQ J D (fun j => E j ∨ (n ≤ j ∧ j < n + szF J.2.2.1 n ∧ p j = true)) b (ownG p b (szF J.2.2.1 n) n σ) m') := by
      intro σ1 m1 E1 jx hQ1 h1 h2 h3 es
      refine w330_97 xs (d + N) _ _ m1 _ ⟨xi, ?_⟩
      rw [ei, (hQ1.1.1.2.1 n hn).2.2.2.2.2.1]
      refine yP.mono (Nat.le_refl _) (fun r m2 q => ?_) (kd _ 0 (n + 1) σ1 m1 E1 rfl w6 (by omega) hQ1 (fun x z1 z2 z3 => h1 x (by omega) z2 z3))
      obtain ⟨o1, o2, o3⟩ := q
      refine ⟨o1, jx.tr o2, ?_⟩
      rw [es]
      refine o3.mono (fun x hx => ?_)
      rcases hx with hx | ⟨x1, x2, x3⟩
      · exact Or.inl (h2 x hx)
      · by_cases e : x = n
        · subst e; exact Or.inl (h3 x3)
        · exact Or.inr ⟨by omega, x2, x3⟩
    have sz1 : szF J.2.2.1 n = (n + szF J.2.2.1 n - (n + 1)) + 1 := by omega
    have s60 : ∀ u : Int32, (u = 0 ↔ ¬ p n = true) → yP (xg xs) (d + N + 1) 330 60 [(0, .ref 58), (1, .int (nI (J.2.2.2 n))), (2, .int l2)] [.int u] m (fun r m' => r = none ∧ JX m m' ∧ OQ J D (fun j => E j ∨ (n ≤ j ∧ j < n + szF J.2.2.1 n ∧ p j = true)) b (ownG p b (szF J.2.2.1 n) n σ) m') := by
      intro u hu
      have hR := hQ.1.2.1
      obtain ⟨b1, b2⟩ := hR.nB
      have eb : m.1 58 23 - 1 = nI b := by rw [b1, nI_m (by have := hQ.2.1; omega), show σ.1.length - 1 = b by have := hQ.2.1; omega]
      have xb : x_in (nI b) 400 = true := x_in_nI (by have := hQ.2.1; omega) (by decide)
      have cb : (nI b).toNatClampNeg = b := nI_clamp (by have := hQ.2.1; omega)
      refine w330_60 xs (d + N) _ _ _ m _ ⟨fun z => ?_, fun z => ?_⟩
      · have np := hu.mp z
        refine s97 σ m E (JX.re m) hQ (fun x z1 z2 z3 => hE x (by omega) z2 z3) (fun x hx => hx) (fun y => absurd y np) ?_
        rw [sz1, show n + (n + szF J.2.2.1 n - (n + 1) + 1) - (n + 1) = n + szF J.2.2.1 n - (n + 1) by omega]
        show ownG p b _ (n + 1) (if p n = true then bump σ b n else σ) = _
        rw [if_neg np]
      · have pn : p n = true := Decidable.byContradiction (fun y => z (hu.mpr y))
        have kn : kK J.2.2.1 n = 16 ∨ kK J.2.2.1 n = 19 ∨ kK J.2.2.1 n = 25 := by
          rcases hl with ⟨-, y⟩ | ⟨-, y⟩
          · rcases (y n hn).mp pn with y | y
            · exact Or.inl y
            · exact Or.inr (Or.inl y)
          · exact Or.inr (Or.inr ((y n hn).mp pn).1)
        rw [eb, cb, ei]
        refine ⟨xb, xi, xb, xb, ?_⟩
        refine s97 (bump σ b n) _ (fun j => E j ∨ j = n) (((JX.re m).si (by omega)).si (by omega)) (hQ.b hn kn (hE n (Nat.le_refl _) (by omega) pn)) (fun x z1 z2 z3 => ?_) (fun x hx => Or.inl hx) (fun _ => Or.inr rfl) ?_
        · rintro (y | y)
          · exact hE x (by omega) z2 z3 y
          · omega
        · rw [sz1, show n + (n + szF J.2.2.1 n - (n + 1) + 1) - (n + 1) = n + szF J.2.2.1 n - (n + 1) by omega]
          show ownG p b _ (n + 1) (if p n = true then bump σ b n else σ) = _
          rw [if_pos pn]
    have k31 : kK J.2.2.1 n < 2 ^ 31 := by omega
    have kn : ∀ q, q < 1000 → (nI (kK J.2.2.1 n) = nI q ↔ kK J.2.2.1 n = q) := fun q hq => nI_eq k31 (by omega)
    rcases hl with ⟨l0, hp⟩ | ⟨l1, hp⟩
    · have yes : p n = true → yP (xg xs) (d + N + 1) 330 26 [(0, .ref 58), (1, .int (nI (J.2.2.2 n))), (2, .int l2)] [] m _ := fun y => w330_26 xs (d + N) _ _ m _ (s60 1 ⟨fun z => absurd z (by decide), fun z => absurd y z⟩)
      refine w330_0 xs (d + N) _ _ m _ ⟨fun z => absurd l0 z, fun _ => ⟨xi, ?_⟩⟩
      rw [ei, n62]
      refine ⟨fun z => yes ((hp n hn).mpr (Or.inl ((kn 16 (by omega)).mp z))), fun z => ⟨xi, fun z2 => s60 0 ⟨fun _ y => ?_, fun _ => rfl⟩, fun z2 => yes ((hp n hn).mpr (Or.inr ((kn 19 (by omega)).mp z2)))⟩⟩
      rcases (hp n hn).mp y with y | y
      · exact z ((kn 16 (by omega)).mpr y)
      · exact z2 ((kn 19 (by omega)).mpr y)
    · have no : ¬ p n = true → yP (xg xs) (d + N + 1) 330 59 [(0, .ref 58), (1, .int (nI (J.2.2.2 n))), (2, .int l2)] [] m _ := fun y => w330_59 xs (d + N) _ _ m _ (s60 0 ⟨fun _ => y, fun _ => rfl⟩)
      refine w330_0 xs (d + N) _ _ m _ ⟨fun _ => ⟨xi, ?_⟩, fun z => absurd (l1 ▸ z) (by decide)⟩
      rw [ei, n62]
      refine ⟨fun z => no (fun y => z ((kn 25 (by omega)).mpr ((hp n hn).mp y).1)), fun z => ⟨xi, ?_⟩⟩
      have k25 := (kn 25 (by omega)).mp z
      rw [(hT.2.1 n hn).2.2.2.1 (h25 n hn k25)]
      exact ⟨fun w => no (fun y => ((hp n hn).mp y).2 w), fun w => s60 1 ⟨fun y => absurd y (by decide), fun y => absurd ((hp n hn).mpr ⟨k25, w⟩) y⟩⟩
