/-! THE REFERENCE'S RULES: a block's end -/
/-- own cells, a fault standing -/
theorem c330f (xs : List Int32) (d : Nat) {J : JV} {m0 : yM} {T : Nat} {b : Nat} (hb : b < 399) {l2 : Int32} (hl : l2 = 0 ∨ l2 = 1) (h25 : ∀ i, i < J.2.2.1.length → kK J.2.2.1 i = 25 → vtF J.2.2.1 i = 0) : ∀ (N n : Nat) (m : yM), TW m0 T J.2.2.1 N n → JT J m → m.1 58 23 = nI (b + 1) → yC (xg xs) (d + N) 330 [.ref 58, .int (nI (J.2.2.2 n)), .int l2] m (fun r m' => r = none ∧ JX m m' ∧ ∀ i, m'.1 58 i = m.1 58 i) := by
  intro N
  induction N with
  | zero => intro n m h; exact absurd h (fun z => z)
  | succ N ih =>
    intro n m hW hT hB
    obtain ⟨w1, w2, w3, w4, w5, w6, w7⟩ := hW
    have hn : n < J.2.2.1.length := by omega
    have kd : ∀ (K : List Nat) (j : Nat) (m : yM), (kids J.2.2.1 n).drop j = K → JT J m → m.1 58 23 = nI (b + 1) → yP (xg xs) (d + N + 1) 330 105 [(0, .ref 58), (2, .int l2), (4, .int (lkI J.2.2.2 (kids J.2.2.1 n)[j]?))] [] m (fun r m' => r = none ∧ JX m m' ∧ ∀ i, m'.1 58 i = m.1 58 i) := by
      intro K
      induction K with
      | nil =>
        intro j m e _ _
        have : (kids J.2.2.1 n)[j]? = none := by
          rw [List.getElem?_eq_none_iff]
          exact List.drop_eq_nil_iff.mp e
        rw [this]
        exact w330_105 xs (d + N) _ _ m _ ⟨fun _ => ⟨rfl, JX.re m, fun _ => rfl⟩, fun z => absurd rfl z⟩
      | cons c K ihK =>
        intro j m e hTm hB
        have hj : (kids J.2.2.1 n)[j]? = some c := by
          have := congrArg (fun l => l[0]?) e
          simpa using this
        have e' : (kids J.2.2.1 n).drop (j + 1) = K := by
          have := congrArg (List.drop 1) e
          rw [List.drop_drop] at this
          simpa using this
        obtain ⟨c1, c2, c3⟩ := hTm.kc hn hj
        have e4 : lkI J.2.2.2 (kids J.2.2.1 n)[j]? = nI (J.2.2.2 c) := by rw [hj]; rfl
        rw [e4]
        refine w330_105 xs (d + N) _ _ m _ ⟨fun z => absurd z (nI_m1 (by have := hTm.i c1; omega)), fun _ => ?_⟩
        refine yC.mono (Nat.le_refl _) (fun r m1 q => ?_) (ih c m (w7 c (List.mem_of_getElem? hj)) hTm hB)
        obtain ⟨q1, q2, q3⟩ := q
        have hT1 := hTm.kx q2
        refine ⟨q1, hTm.x c1, ?_⟩
        rw [hTm.c c1, (hT1.kc hn hj).2.2]
        refine yP.mono (Nat.le_refl _) (fun r2 m2 q => ?_) (ihK (j + 1) m1 e' hT1 (by rw [q3]; exact hB))
        obtain ⟨o1, o2, o3⟩ := q
        exact ⟨o1, q2.tr o2, fun i => by rw [o3, q3]⟩
    have xi := hT.x hn
    have ei := hT.c hn
    have s97 : ∀ m1 : yM, JX m m1 → (∀ i, m1.1 58 i = m.1 58 i) → yP (xg xs) (d + N + 1) 330 97 [(0, .ref 58), (1, .int (nI (J.2.2.2 n))), (2, .int l2)] [] m1 (fun r m' => r = none ∧ JX m m' ∧ ∀ i, m'.1 58 i = m.1 58 i) := by
      intro m1 jx g
      have hT1 := hT.kx jx
      refine w330_97 xs (d + N) _ _ m1 _ ⟨xi, ?_⟩
      rw [ei, (hT1.2.1 n hn).2.2.2.2.2.1]
      refine yP.mono (Nat.le_refl _) (fun r m2 q => ?_) (kd _ 0 m1 rfl hT1 (by rw [g]; exact hB))
      obtain ⟨o1, o2, o3⟩ := q
      exact ⟨o1, jx.tr o2, fun i => by rw [o3, g]⟩
    have s60 : ∀ u : Int32, yP (xg xs) (d + N + 1) 330 60 [(0, .ref 58), (1, .int (nI (J.2.2.2 n))), (2, .int l2)] [.int u] m (fun r m' => r = none ∧ JX m m' ∧ ∀ i, m'.1 58 i = m.1 58 i) := by
      intro u
      have eb : m.1 58 23 - 1 = nI b := by rw [hB, nI_m (by omega)]; rfl
      have xb : x_in (nI b) 400 = true := x_in_nI (by omega) (by decide)
      have cb : (nI b).toNatClampNeg = b := nI_clamp (by omega)
      refine w330_60 xs (d + N) _ _ _ m _ ⟨fun z => s97 m (JX.re m) (fun _ => rfl), fun z => ?_⟩
      rw [eb, cb, ei]
      refine ⟨xb, xi, xb, xb, s97 _ (((JX.re m).si (by omega)).si (by omega)) (fun i => ?_)⟩
      rw [y_si_at, if_neg (by omega), y_si_at, if_neg (by omega)]
    have s26 := w330_26 xs (d + N) _ _ m _ (s60 1)
    have s59 := w330_59 xs (d + N) _ _ m _ (s60 0)
    refine w330_0 xs (d + N) _ _ m _ ⟨fun _ => ⟨xi, fun _ => s59, fun _ => ⟨xi, fun _ => s59, fun _ => s60 1⟩⟩, fun _ => ⟨xi, fun _ => s26, fun _ => ⟨xi, fun _ => s60 0, fun _ => s26⟩⟩⟩
theorem hasL_c (K : Nat → Int32) : ∀ n i (a : Int32), (a = 0 ∨ a = 1) → (hasL K n i a = 0 ↔ (a = 0 ∧ ∀ j, i ≤ j → j < i + n → ¬ K j = 22))
  | 0, i, a, _ => ⟨fun z => ⟨z, fun j z1 z2 => by omega⟩, fun z => z.1⟩
  | n + 1, i, a, ha => by
    have es : hasL K (n + 1) i a = hasL K n (i + 1) (a ||| (if K i = 22 then 1 else 0)) := rfl
    have hv : ((a ||| (if K i = 22 then 1 else 0)) = 0 ∨ (a ||| (if K i = 22 then 1 else 0)) = 1) ∧ ((a ||| (if K i = 22 then 1 else 0)) = 0 ↔ (a = 0 ∧ ¬ K i = 22)) := by
      by_cases q : K i = 22
      · rw [if_pos q]
        rcases ha with rfl | rfl
        · exact ⟨Or.inr (by decide), ⟨fun z => absurd z (by decide), fun z => absurd q z.2⟩⟩
        · exact ⟨Or.inr (by decide), ⟨fun z => absurd z (by decide), fun z => absurd q z.2⟩⟩
      · rw [if_neg q]
        rcases ha with rfl | rfl
        · exact ⟨Or.inl (by decide), ⟨fun _ => ⟨rfl, q⟩, fun _ => by decide⟩⟩
        · exact ⟨Or.inr (by decide), ⟨fun z => absurd z (by decide), fun z => absurd z.1 (by decide)⟩⟩
    rw [es, hasL_c K n (i + 1) _ hv.1, hv.2]
    constructor
    · rintro ⟨⟨z1, z2⟩, z3⟩
      refine ⟨z1, fun j y1 y2 => ?_⟩
      by_cases e : j = i
      · rw [e]; exact z2
      · exact z3 j (by omega) (by omega)
    · rintro ⟨z1, z2⟩
      exact ⟨⟨z1, z2 i (Nat.le_refl _) (by omega)⟩, fun j y1 y2 => z2 j (by omega) (by omega)⟩
theorem RB.s73 {J : JV} {σ : RS} {m : yM} (h : RB J σ m) (x : Int32) : RB J σ (y_si m 73 σ.1.length x) := by
  obtain ⟨a, b, c⟩ := h
  refine ⟨?_, fun e y hy => ?_, fun v y hy => ?_⟩
  · rw [y_si_at, if_neg (by omega), y_si_at, if_neg (by omega), y_si_at, if_neg (by omega), y_si_at, if_neg (by omega)]
    exact a
  · have lt := (List.getElem?_eq_some_iff.mp hy).1
    rw [y_si_at, if_neg (by omega), y_si_at, if_neg (by omega), y_si_at, if_neg (by omega), y_si_at, if_neg (by omega)]
    exact b e y hy
  · obtain ⟨c1, c2, c3⟩ := c v y hy
    exact ⟨by rw [y_si_at, if_neg (by omega)]; exact c1, fun e => (c2 e).fr (fun a z1 z2 => by rw [y_si_at, if_neg (by omega)]), fun w e => (c3 w e).fr rfl Iff.rfl rfl (fun a z1 z2 => by rw [y_si_at, if_neg (by omega)])⟩
/-- a block is over -/
def JQb (J : JV) (D E : Nat → Prop) (m0 : yM) (n : Nat) (R : RS ⊕ Int32) (r : Option Value) (m' : yM) : Prop := r = none ∧ JX m0 m' ∧ match R with
  | .inr c => FE J c n m'
  | .inl σ' => RJ J D σ' m' ∧ OE J E σ' m'
def p16 (J : JV) (i : Nat) : Bool := decide (kK J.2.2.1 i = 16 ∨ kK J.2.2.1 i = 19)
def p25 (J : JV) (i : Nat) : Bool := decide (kK J.2.2.1 i = 25 ∧ ¬ vF J.2.2.1 i ≤ 1)
theorem c327_b (xs : List Int32) (d : Nat) {J : JV} {m0 : yM} {T N : Nat} {D E : Nat → Prop} {σ : RS} {m : yM} (h : RJ J D σ m) (hE : OE J E σ m) (h0 : 0 < σ.1.length) (hD : allD σ) {n k : Nat} (hW : TW m0 T J.2.2.1 N n) (hk : k = 1 ∨ k = 2 ∨ k = 3) (kn : kK J.2.2.1 n = k) (hcur : (curB σ).2.1 = n) (kcur : (curB σ).1 = nI k) (hEn : ∀ i, n ≤ i → ¬ E i) (h25 : ∀ i, i < J.2.2.1.length → kK J.2.2.1 i = 25 → vtF J.2.2.1 i = 0) (hkk : ∀ i, n ≤ i → i < n + szF J.2.2.1 n → (p16 J i = true ↔ (σ.2.2.1 i = 16 ∨ σ.2.2.1 i = 19)) ∧ (p25 J i = true ↔ (σ.2.2.1 i = 25 ∧ ¬ σ.2.2.2.1 i < 2))) {l : Nat} (hl : (kids J.2.2.1 n)[(kids J.2.2.1 n).length - 1]? = some l) (h22 : (∃ i, n ≤ i ∧ i < n + szF J.2.2.1 n ∧ σ.2.2.1 i = 22) ↔ kK J.2.2.1 l = 22) (kl : kK J.2.2.1 l < 37) : yC (xg xs) (d + N + 2) 327 [.ref 58, .int (nI (J.2.2.2 n)), .int (nI k)] m (JQb J D (fun j => E j ∨ (n ≤ j ∧ j < n + szF J.2.2.1 n ∧ (p16 J j = true ∨ p25 J j = true))) m n (lkBlk J.2.2.1 σ)) := by
  have hT := h.1
  have hR := h.2.1
  have f0 := hR.f0
  obtain ⟨b1, b2⟩ := hR.nB
  have hn : n < J.2.2.1.length := by
    have := hW.at
    omega
  have xi := hT.x hn
  have ei := hT.c hn
  have eB : m.1 58 23 - 1 = nI (σ.1.length - 1) := by rw [b1, nI_m h0]
  have hlt : l < J.2.2.1.length := (hT.kc hn hl).1
  have pw16 : pOw J 0 (p16 J) := Or.inl ⟨rfl, fun i _ => decide_eq_true_iff⟩
  have pw25 : pOw J 1 (p25 J) := Or.inr ⟨rfl, fun i _ => decide_eq_true_iff⟩
  have inb : inB σ 1 ↔ k = 1 := by
    have : (curB σ).1 = 1 ↔ k = 1 := by
      rw [kcur]
      exact nI_eq (b := 1) (by omega) (by omega)
    exact ⟨fun z => this.mp z.2, fun z => ⟨h0, this.mpr z⟩⟩
  unfold lkBlk
  have ecur : (σ.1.getD (σ.1.length - 1) dBK).2.1 = n := hcur
  rw [ecur]
  have s132 : ∀ (u : Int32) (b : Bool), u = (if b = true then 1 else 0) → b = decide (inB σ 1 ∧ ¬ nIn σ (σ.1.length - 1) ≤ 8) → yP (xg xs) (d + N + 2) 327 132 [(0, .ref 58), (1, .int (nI (J.2.2.2 n)))] [.int u, .int (44 : Int32), .ref 58] m (JQb J D (fun j => E j ∨ (n ≤ j ∧ j < n + szF J.2.2.1 n ∧ (p16 J j = true ∨ p25 J j = true))) m n (if inB σ 1 ∧ ¬ nIn σ (σ.1.length - 1) ≤ 8 then .inr 44 else .inl (ownC σ (σ.1.length - 1) n (szF J.2.2.1 n)))) := by
    intro u b hu hb
    refine w327_132 xs (d + N + 1) _ _ _ m _ (rlb (by omega) (by decide) hT hn f0 false b hu ?_)
    rw [Bool.false_or]
    by_cases q : inB σ 1 ∧ ¬ nIn σ (σ.1.length - 1) ≤ 8
    · rw [if_pos q, hb, decide_eq_true q, flb_t]
      have fe := FE.mk J m (show (0 : Int32) < 44 by decide) n
      have jk := (JK.re m).fl J 44 n
      have e23 : (flM2 J m 44 n).1 58 23 = nI (σ.1.length - 1 + 1) := by
        have := jk23 J m 44 n true
        rw [flb_t] at this
        rw [this, b1, show σ.1.length - 1 + 1 = σ.1.length by omega]
      refine yC.mono (show d + N ≤ d + N + 1 by omega) (fun r m1 z => ?_) (c330f xs d (b := σ.1.length - 1) (by omega) (Or.inl rfl) h25 N n _ hW (hT.k jk) e23)
      obtain ⟨r1, j1, g1⟩ := z
      refine ⟨r1, ?_⟩
      have hT1 := (hT.k jk).kx j1
      refine yC.mono (show d + N ≤ d + N + 1 by omega) (fun r m2 z => ?_) (c330f xs d (b := σ.1.length - 1) (by omega) (Or.inr rfl) h25 N n _ hW hT1 (by rw [g1]; exact e23))
      obtain ⟨r2, j2, g2⟩ := z
      have hT2 := hT1.kx j2
      have jx := (jk.x.tr j1).tr j2
      have g58 : ∀ i, m2.1 58 i = (flM2 J m 44 n).1 58 i := fun i => by rw [g2, g1]
      refine ⟨r2, ?_⟩
      have eB2 : m2.1 58 23 = nI σ.1.length := by rw [g58, e23, show σ.1.length - 1 + 1 = σ.1.length by omega]
      have cB' : (nI (σ.1.length - 1)).toNatClampNeg = σ.1.length - 1 := nI_clamp (by omega)
      rw [eB2, nI_m h0, cB', ei, hT2.ka hn hl, hT2.c hlt]
      have xB : x_in (nI (σ.1.length - 1)) 400 = true := x_in_nI (by omega) (by decide)
      have fin : ∀ x y : Int32, yP (xg xs) (d + N + 2) 327 183 [(0, .ref 58)] [.int x, .int y, .int (nI (σ.1.length - 1)), .ref 72] m2 (JQb J D (fun j => E j ∨ (n ≤ j ∧ j < n + szF J.2.2.1 n ∧ (p16 J j = true ∨ p25 J j = true))) m n (.inr 44)) := by
        intro x y
        refine w327_183 xs (d + N + 1) _ _ _ m2 _ ⟨xB, ?_, rfl, (jx.si (by omega)).si (by omega), ?_, fe.2.1, ?_⟩
        · rw [eB2]; exact x_in_nI (by omega) (by decide)
        · rw [y_si_at, if_neg (by omega), y_si_at, if_neg (by omega), g58]; exact fe.1
        · rw [y_si_at, if_neg (by omega), y_si_at, if_neg (by omega), g58]; exact fe.2.2
      exact ⟨xB, xi, hT.x hlt, fun _ => fin _ _, fun _ => fin _ _⟩
    · rw [if_neg q, hb, decide_eq_false q, flb_f]
      have oq : OQ J D E (σ.1.length - 1) σ m := ⟨h, by omega, hE⟩
      refine yC.mono (show d + N ≤ d + N + 1 by omega) (fun r m1 z => ?_) (c330 xs d pw16 h25 N n σ m E hW oq (fun i z1 _ _ => hEn i z1))
      obtain ⟨r1, j1, o1⟩ := z
      refine ⟨r1, ?_⟩
      refine yC.mono (show d + N ≤ d + N + 1 by omega) (fun r m2 z => ?_) (c330 xs d pw25 h25 N n _ m1 _ hW o1 (fun i z1 z2 z3 y => ?_))
      rotate_left
      · rcases y with y | y
        · exact hEn i z1 y
        · have a := decide_eq_true_iff.mp y.2.2
          have b := decide_eq_true_iff.mp z3
          omega
      obtain ⟨r2, j2, o2⟩ := z
      refine ⟨r2, ?_⟩
      have e1 : ownG (p16 J) (σ.1.length - 1) (szF J.2.2.1 n) n σ = own1 (σ.1.length - 1) (szF J.2.2.1 n) n σ := (own1_g _ _ _ _ _ (fun j z1 z2 => (hkk j z1 z2).1)).symm
      obtain ⟨gk, gv, gl, gV⟩ := ownG_k (p16 J) (σ.1.length - 1) (szF J.2.2.1 n) n σ
      have e2 : ownG (p25 J) (σ.1.length - 1) (szF J.2.2.1 n) n (ownG (p16 J) (σ.1.length - 1) (szF J.2.2.1 n) n σ) = own2 (σ.1.length - 1) (szF J.2.2.1 n) n (own1 (σ.1.length - 1) (szF J.2.2.1 n) n σ) := by
        rw [e1]
        refine (own2_g _ _ _ _ _ (fun j z1 z2 => ?_)).symm
        rw [← e1, gk, gv]
        exact (hkk j z1 z2).2
      unfold ownC
      rw [← e2]
      obtain ⟨gk2, gv2, gl2, gV2⟩ := ownG_k (p25 J) (σ.1.length - 1) (szF J.2.2.1 n) n (ownG (p16 J) (σ.1.length - 1) (szF J.2.2.1 n) n σ)
      generalize ownG (p25 J) (σ.1.length - 1) (szF J.2.2.1 n) n (ownG (p16 J) (σ.1.length - 1) (szF J.2.2.1 n) n σ) = τ at o2 gk2 gv2 gl2 gV2
      have lτ : τ.1.length = σ.1.length := gl2.trans gl
      have rT := o2.1.1
      have rR := o2.1.2.1
      have n1' := rR.nB.1
      rw [lτ] at n1'
      have bl : σ.1.length - 1 < τ.1.length := by omega
      have bb := (rR.b bl).2.2.2.1
      have cB' : (nI (σ.1.length - 1)).toNatClampNeg = σ.1.length - 1 := nI_clamp (by omega)
      have xB : x_in (nI (σ.1.length - 1)) 400 = true := x_in_nI (by omega) (by decide)
      rw [n1', nI_m h0, cB', ei, rT.ka hn hl, rT.c hlt, (rT.2.1 l hlt).2.1, bb]
      have fin : ∀ x : Int32, x = (if hasL σ.2.2.1 (szF J.2.2.1 n) n 0 = 0 then 0 else 156) → yP (xg xs) (d + N + 2) 327 183 [(0, .ref 58)] [.int x, .int (τ.1.getD (σ.1.length - 1) dBK).2.2.2.1, .int (nI (σ.1.length - 1)), .ref 72] m2 (JQb J D (fun j => E j ∨ (n ≤ j ∧ j < n + szF J.2.2.1 n ∧ (p16 J j = true ∨ p25 J j = true))) m n (.inl (setC τ (σ.1.length - 1) (cB τ (σ.1.length - 1) + (if hasL σ.2.2.1 (szF J.2.2.1 n) n 0 = 0 then 0 else 156))))) := by
        intro x hx
        rw [← hx]
        refine w327_183 xs (d + N + 1) _ _ _ m2 _ ⟨xB, ?_, ?_⟩
        · rw [n1']; exact x_in_nI (by omega) (by decide)
        · rw [n1', cB', nI_clamp (by omega)]
          have jx : JX m (y_si (y_si m2 72 (σ.1.length - 1) ((τ.1.getD (σ.1.length - 1) dBK).2.2.2.1 + x)) 73 σ.1.length (m2.1 58 30)) := ((j1.tr j2).si (by omega)).si (by omega)
          refine ⟨rfl, jx, ⟨hT.kx jx, ?_, ?_⟩, fun i hi => ?_⟩
          · have r1 : RB J (setC τ (σ.1.length - 1) (cB τ (σ.1.length - 1) + x)) (y_si m2 72 (σ.1.length - 1) ((τ.1.getD (σ.1.length - 1) dBK).2.2.2.1 + x)) := RB.sc rR bl (fun a i z1 z2 z3 => by rw [y_si_at, if_neg z3]) (fun i hi => by rw [y_si_at, if_neg (by omega)]) (by rw [y_si_same]; rfl)
            have := r1.s73 (m2.1 58 30)
            rw [setC_l, lτ] at this
            exact this
          · exact RJ.nd o2.1.2.2 rfl (fun a i z1 z2 => by rw [y_si_at, if_neg (by omega), y_si_at, if_neg (by omega)])
          · have hi' : ((E i ∨ (n ≤ i ∧ i < n + szF J.2.2.1 n ∧ p16 J i = true)) ∨ (n ≤ i ∧ i < n + szF J.2.2.1 n ∧ p25 J i = true)) := by
              rcases hi with y | ⟨y1, y2, y3⟩
              · exact Or.inl (Or.inl y)
              · rcases y3 with y3 | y3
                · exact Or.inl (Or.inr ⟨y1, y2, y3⟩)
                · exact Or.inr ⟨y1, y2, y3⟩
            obtain ⟨t1, t2, t3⟩ := o2.2.2 i hi'
            refine ⟨t1, t2, ?_⟩
            rw [y_si_at, if_neg (by omega), y_si_at, if_neg (by omega)]
            exact t3
      have hL := hasL_c σ.2.2.1 (szF J.2.2.1 n) n 0 (Or.inl rfl)
      have k22 : nI (kK J.2.2.1 l) = 22 ↔ kK J.2.2.1 l = 22 := nI_eq (b := 22) (by omega) (by omega)
      refine ⟨xB, xi, hT.x hlt, fun z => fin 0 ?_, fun z => fin 156 ?_⟩
      · rw [if_pos]
        refine hL.mpr ⟨rfl, fun j z1 z2 z3 => z (k22.mpr (h22.mp ⟨j, z1, z2, z3⟩))⟩
      · rw [if_neg]
        intro y
        obtain ⟨j, z1, z2, z3⟩ := h22.mpr (k22.mp z)
        exact (hL.mp y).2 j z1 z2 z3
  have s131 : ¬ (inB σ 1 ∧ ¬ nIn σ (σ.1.length - 1) ≤ 8) → yP (xg xs) (d + N + 2) 327 131 [(0, .ref 58), (1, .int (nI (J.2.2.2 n)))] [.int (44 : Int32), .ref 58] m (JQb J D (fun j => E j ∨ (n ≤ j ∧ j < n + szF J.2.2.1 n ∧ (p16 J j = true ∨ p25 J j = true))) m n (if inB σ 1 ∧ ¬ nIn σ (σ.1.length - 1) ≤ 8 then .inr 44 else .inl (ownC σ (σ.1.length - 1) n (szF J.2.2.1 n)))) := fun y => w327_131 xs (d + N + 1) _ _ m _ (s132 0 false rfl (decide_eq_false y).symm)
  rcases hk with rfl | rfl | rfl
  · refine w327_0 xs (d + N + 1) _ _ m _ ⟨fun w => absurd w (by decide), fun _ => ⟨fun z => absurd rfl z, fun _ => ?_⟩, fun w => absurd w (by decide), fun w => absurd w (by decide), fun w => absurd w (by decide), fun w => absurd w (by decide), fun w => absurd w (by decide), fun w => absurd w (by decide), fun w => absurd w (by decide), fun w => absurd w (by decide), fun _ w => absurd rfl w⟩
    rw [eB]
    exact y_ci (c329 xs (d + N) hR hD (by omega)) (by omega) ⟨fun z => s131 (fun y => y.2 z), fun z => s132 1 true rfl (decide_eq_true ⟨inb.mpr rfl, z⟩).symm⟩
  · exact w327_0 xs (d + N + 1) _ _ m _ ⟨fun w => absurd w (by decide), fun w => absurd w (by decide), fun _ => ⟨fun _ => s131 (fun y => absurd (inb.mp y.1) (by omega)), fun z => absurd z (by decide)⟩, fun w => absurd w (by decide), fun w => absurd w (by decide), fun w => absurd w (by decide), fun w => absurd w (by decide), fun w => absurd w (by decide), fun w => absurd w (by decide), fun w => absurd w (by decide), fun _ _ w => absurd rfl w⟩
  · exact w327_0 xs (d + N + 1) _ _ m _ ⟨fun w => absurd w (by decide), fun w => absurd w (by decide), fun w => absurd w (by decide), fun _ => ⟨fun _ => s131 (fun y => absurd (inb.mp y.1) (by omega)), fun z => absurd z (by decide)⟩, fun w => absurd w (by decide), fun w => absurd w (by decide), fun w => absurd w (by decide), fun w => absurd w (by decide), fun w => absurd w (by decide), fun w => absurd w (by decide), fun _ _ _ w => absurd rfl w⟩
