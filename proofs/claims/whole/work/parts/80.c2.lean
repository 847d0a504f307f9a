/-! JUDGE: where a block's variables end -/
def JQz (J : JV) (D E : Nat → Prop) (m0 : yM) (n : Nat) (R : RS ⊕ Int32) (r : Option Value) (m' : yM) : Prop := r = none ∧ JX m0 m' ∧ match R with
  | .inr c => FE J c n m'
  | .inl σ' => (RJ J D σ' m' ∧ OE J E σ' m') ∧ m'.1 73 σ'.1.length = m'.1 58 30
theorem c327_z (xs : List Int32) (d : Nat) {J : JV} {m0 : yM} {T N : Nat} {D E : Nat → Prop} {σ : RS} {m : yM} (h : RJ J D σ m) (hE : OE J E σ m) (h0 : 0 < σ.1.length) (hD : allD σ) {n k : Nat} (hW : TW m0 T J.2.2.1 N n) (hk : k = 1 ∨ k = 2 ∨ k = 3) (kn : kK J.2.2.1 n = k) (hcur : (curB σ).2.1 = n) (kcur : (curB σ).1 = nI k) (hEn : ∀ i, n ≤ i → ¬ E i) (h25 : ∀ i, i < J.2.2.1.length → kK J.2.2.1 i = 25 → vtF J.2.2.1 i = 0) (hkk : ∀ i, n ≤ i → i < n + szF J.2.2.1 n → (p16 J i = true ↔ (σ.2.2.1 i = 16 ∨ σ.2.2.1 i = 19)) ∧ (p25 J i = true ↔ (σ.2.2.1 i = 25 ∧ ¬ σ.2.2.2.1 i < 2))) {l : Nat} (hl : (kids J.2.2.1 n)[(kids J.2.2.1 n).length - 1]? = some l) (h22 : (∃ i, n ≤ i ∧ i < n + szF J.2.2.1 n ∧ σ.2.2.1 i = 22) ↔ kK J.2.2.1 l = 22) (kl : kK J.2.2.1 l < 37) : yC (xg xs) (d + N + 2) 327 [.ref 58, .int (nI (J.2.2.2 n)), .int (nI k)] m (JQz J D (fun j => E j ∨ (n ≤ j ∧ j < n + szF J.2.2.1 n ∧ (p16 J j = true ∨ p25 J j = true))) m n (lkBlk J.2.2.1 σ)) := by
  have hT := h.1
  have hR := h.2.1
  have f0 := hR.f0
  obtain ⟨b1, b2⟩ := hR.nB
  have hn : n < J.2.2.1.length := by
    have := hW.at
    omega
  have xi := hT.x hn
  have ei := hT.c hn
  have eB : m.1 58 23 - 1 = nI (σ.1.length - 1) := by rw [b1, nI_m h0]
  have hlt : l < J.2.2.1.length := (hT.kc hn hl).1
  have pw16 : pOw J 0 (p16 J) := Or.inl ⟨rfl, fun i _ => decide_eq_true_iff⟩
  have pw25 : pOw J 1 (p25 J) := Or.inr ⟨rfl, fun i _ => decide_eq_true_iff⟩
  have inb : inB σ 1 ↔ k = 1 := by
    have : (curB σ).1 = 1 ↔ k = 1 := by
      rw [kcur]
      exact nI_eq (b := 1) (by omega) (by omega)
    exact ⟨fun z => this.mp z.2, fun z => ⟨h0, this.mpr z⟩⟩
  unfold lkBlk
  have ecur : (σ.1.getD (σ.1.length - 1) dBK).2.1 = n := hcur
  rw [ecur]
  have s132 : ∀ (u : Int32) (b : Bool), u = (if b = true then 1 else 0) → b = decide (inB σ 1 ∧ ¬ nIn σ (σ.1.length - 1) ≤ 8) → yP (xg xs) (d + N + 2) 327 132 [(0, .ref 58), (1, .int (nI (J.2.2.2 n)))] [.int u, .int (44 : Int32), .ref 58] m (JQz J D (fun j => E j ∨ (n ≤ j ∧ j < n + szF J.2.2.1 n ∧ (p16 J j = true ∨ p25 J j = true))) m n (if inB σ 1 ∧ ¬ nIn σ (σ.1.length - 1) ≤ 8 then .inr 44 else .inl (ownC σ (σ.1.length - 1) n (szF J.2.2.1 n)))) := by
    intro u b hu hb
    refine w327_132 xs (d + N + 1) _ _ _ m _ (rlb (by omega) (by decide) hT hn f0 false b hu ?_)
    rw [Bool.false_or]
    by_cases q : inB σ 1 ∧ ¬ nIn σ (σ.1.length - 1) ≤ 8
    · rw [if_pos q, hb, decide_eq_true q, flb_t]
      have fe := FE.mk J m (show (0 : Int32) < 44 by decide) n
      have jk := (JK.re m).fl J 44 n
      have e23 : (flM2 J m 44 n).1 58 23 = nI (σ.1.length - 1 + 1) := by
        have := jk23 J m 44 n true
        rw [flb_t] at this
        rw [this, b1, show σ.1.length - 1 + 1 = σ.1.length by omega]
      refine yC.mono (show d + N ≤ d + N + 1 by omega) (fun r m1 z => ?_) (c330f xs d (b := σ.1.length - 1) (by omega) (Or.inl rfl) h25 N n _ hW (hT.k jk) e23)
      obtain ⟨r1, j1, g1⟩ := z
      refine ⟨r1, ?_⟩
      have hT1 := (hT.k jk).kx j1
      refine yC.mono (show d + N ≤ d + N + 1 by omega) (fun r m2 z => ?_) (c330f xs d (b := σ.1.length - 1) (by omega) (Or.inr rfl) h25 N n _ hW hT1 (by rw [g1]; exact e23))
      obtain ⟨r2, j2, g2⟩ := z
      have hT2 := hT1.kx j2
      have jx := (jk.x.tr j1).tr j2
      have g58 : ∀ i, m2.1 58 i = (flM2 J m 44 n).1 58 i := fun i => by rw [g2, g1]
      refine ⟨r2, ?_⟩
      have eB2 : m2.1 58 23 = nI σ.1.length := by rw [g58, e23, show σ.1.length - 1 + 1 = σ.1.length by omega]
      have cB' : (nI (σ.1.length - 1)).toNatClampNeg = σ.1.length - 1 := nI_clamp (by omega)
      rw [eB2, nI_m h0, cB', ei, hT2.ka hn hl, hT2.c hlt]
      have xB : x_in (nI (σ.1.length - 1)) 400 = true := x_in_nI (by omega) (by decide)
      have fin : ∀ x y : Int32, yP (xg xs) (d + N + 2) 327 183 [(0, .ref 58)] [.int x, .int y, .int (nI (σ.1.length - 1)), .ref 72] m2 (JQz J D (fun j => E j ∨ (n ≤ j ∧ j < n + szF J.2.2.1 n ∧ (p16 J j = true ∨ p25 J j = true))) m n (.inr 44)) := by
        intro x y
        refine w327_183 xs (d + N + 1) _ _ _ m2 _ ⟨xB, ?_, rfl, (jx.si (by omega)).si (by omega), ?_, fe.2.1, ?_⟩
        · rw [eB2]; exact x_in_nI (by omega) (by decide)
        · rw [y_si_at, if_neg (by omega), y_si_at, if_neg (by omega), g58]; exact fe.1
        · rw [y_si_at, if_neg (by omega), y_si_at, if_neg (by omega), g58]; exact fe.2.2
      exact ⟨xB, xi, hT.x hlt, fun _ => fin _ _, fun _ => fin _ _⟩
    · rw [if_neg q, hb, decide_eq_false q, flb_f]
      have oq : OQ J D E (σ.1.length - 1) σ m := ⟨h, by omega, hE⟩
      refine yC.mono (show d + N ≤ d + N + 1 by omega) (fun r m1 z => ?_) (c330 xs d pw16 h25 N n σ m E hW oq (fun i z1 _ _ => hEn i z1))
      obtain ⟨r1, j1, o1⟩ := z
      refine ⟨r1, ?_⟩
      refine yC.mono (show d + N ≤ d + N + 1 by omega) (fun r m2 z => ?_) (c330 xs d pw25 h25 N n _ m1 _ hW o1 (fun i z1 z2 z3 y => ?_))
      rotate_left
      · rcases y with y | y
        · exact hEn i z1 y
        · have a := decide_eq_true_iff.mp y.2.2
          have b := decide_eq_true_iff.mp z3
          omega
      obtain ⟨r2, j2, o2⟩ := z
      refine ⟨r2, ?_⟩
      have e1 : ownG (p16 J) (σ.1.length - 1) (szF J.2.2.1 n) n σ = own1 (σ.1.length - 1) (szF J.2.2.1 n) n σ := (own1_g _ _ _ _ _ (fun j z1 z2 => (hkk j z1 z2).1)).symm
      obtain ⟨gk, gv, gl, gV⟩ := ownG_k (p16 J) (σ.1.length - 1) (szF J.2.2.1 n) n σ
      have e2 : ownG (p25 J) (σ.1.length - 1) (szF J.2.2.1 n) n (ownG (p16 J) (σ.1.length - 1) (szF J.2.2.1 n) n σ) = own2 (σ.1.length - 1) (szF J.2.2.1 n) n (own1 (σ.1.length - 1) (szF J.2.2.1 n) n σ) := by
        rw [e1]
        refine (own2_g _ _ _ _ _ (fun j z1 z2 => ?_)).symm
        rw [← e1, gk, gv]
        exact (hkk j z1 z2).2
      unfold ownC
      rw [← e2]
      obtain ⟨gk2, gv2, gl2, gV2⟩ := ownG_k (p25 J) (σ.1.length - 1) (szF J.2.2.1 n) n (ownG (p16 J) (σ.1.length - 1) (szF J.2.2.1 n) n σ)
      generalize ownG (p25 J) (σ.1.length - 1) (szF J.2.2.1 n) n (ownG (p16 J) (σ.1.length - 1) (szF J.2.2.1 n) n σ) = τ at o2 gk2 gv2 gl2 gV2
      have lτ : τ.1.length = σ.1.length := gl2.trans gl
      have rT := o2.1.1
      have rR := o2.1.2.1
      have n1' := rR.nB.1
      rw [lτ] at n1'
      have bl : σ.1.length - 1 < τ.1.length := by omega
      have bb := (rR.b bl).2.2.2.1
      have cB' : (nI (σ.1.length - 1)).toNatClampNeg = σ.1.length - 1 := nI_clamp (by omega)
      have xB : x_in (nI (σ.1.length - 1)) 400 = true := x_in_nI (by omega) (by decide)
      rw [n1', nI_m h0, cB', ei, rT.ka hn hl, rT.c hlt, (rT.2.1 l hlt).2.1, bb]
      have fin : ∀ x : Int32, x = (if hasL σ.2.2.1 (szF J.2.2.1 n) n 0 = 0 then 0 else 156) → yP (xg xs) (d + N + 2) 327 183 [(0, .ref 58)] [.int x, .int (τ.1.getD (σ.1.length - 1) dBK).2.2.2.1, .int (nI (σ.1.length - 1)), .ref 72] m2 (JQz J D (fun j => E j ∨ (n ≤ j ∧ j < n + szF J.2.2.1 n ∧ (p16 J j = true ∨ p25 J j = true))) m n (.inl (setC τ (σ.1.length - 1) (cB τ (σ.1.length - 1) + (if hasL σ.2.2.1 (szF J.2.2.1 n) n 0 = 0 then 0 else 156))))) := by
        intro x hx
        rw [← hx]
        refine w327_183 xs (d + N + 1) _ _ _ m2 _ ⟨xB, ?_, ?_⟩
        · rw [n1']; exact x_in_nI (by omega) (by decide)
        · rw [n1', cB', nI_clamp (by omega)]
          have jx : JX m (y_si (y_si m2 72 (σ.1.length - 1) ((τ.1.getD (σ.1.length - 1) dBK).2.2.2.1 + x)) 73 σ.1.length (m2.1 58 30)) := ((j1.tr j2).si (by omega)).si (by omega)
          refine ⟨rfl, jx, ⟨⟨hT.kx jx, ?_, ?_⟩, fun i hi => ?_⟩, ?_⟩
          · have r1 : RB J (setC τ (σ.1.length - 1) (cB τ (σ.1.length - 1) + x)) (y_si m2 72 (σ.1.length - 1) ((τ.1.getD (σ.1.length - 1) dBK).2.2.2.1 + x)) := RB.sc rR bl (fun a i z1 z2 z3 => by rw [y_si_at, if_neg z3]) (fun i hi => by rw [y_si_at, if_neg (by omega)]) (by rw [y_si_same]; rfl)
            have := r1.s73 (m2.1 58 30)
            rw [setC_l, lτ] at this
            exact this
          · exact RJ.nd o2.1.2.2 rfl (fun a i z1 z2 => by rw [y_si_at, if_neg (by omega), y_si_at, if_neg (by omega)])
          · have hi' : ((E i ∨ (n ≤ i ∧ i < n + szF J.2.2.1 n ∧ p16 J i = true)) ∨ (n ≤ i ∧ i < n + szF J.2.2.1 n ∧ p25 J i = true)) := by
              rcases hi with y | ⟨y1, y2, y3⟩
              · exact Or.inl (Or.inl y)
              · rcases y3 with y3 | y3
                · exact Or.inl (Or.inr ⟨y1, y2, y3⟩)
                · exact Or.inr ⟨y1, y2, y3⟩
            obtain ⟨t1, t2, t3⟩ := o2.2.2 i hi'
            refine ⟨t1, t2, ?_⟩
            rw [y_si_at, if_neg (by omega), y_si_at, if_neg (by omega)]
            exact t3
          · rw [setC_l, lτ, y_si_same, y_si_at, if_neg (by omega), y_si_at, if_neg (by omega)]
      have hL := hasL_c σ.2.2.1 (szF J.2.2.1 n) n 0 (Or.inl rfl)
      have k22 : nI (kK J.2.2.1 l) = 22 ↔ kK J.2.2.1 l = 22 := nI_eq (b := 22) (by omega) (by omega)
      refine ⟨xB, xi, hT.x hlt, fun z => fin 0 ?_, fun z => fin 156 ?_⟩
      · rw [if_pos]
        refine hL.mpr ⟨rfl, fun j z1 z2 z3 => z (k22.mpr (h22.mp ⟨j, z1, z2, z3⟩))⟩
      · rw [if_neg]
        intro y
        obtain ⟨j, z1, z2, z3⟩ := h22.mpr (k22.mp z)
        exact (hL.mp y).2 j z1 z2 z3
  have s131 : ¬ (inB σ 1 ∧ ¬ nIn σ (σ.1.length - 1) ≤ 8) → yP (xg xs) (d + N + 2) 327 131 [(0, .ref 58), (1, .int (nI (J.2.2.2 n)))] [.int (44 : Int32), .ref 58] m (JQz J D (fun j => E j ∨ (n ≤ j ∧ j < n + szF J.2.2.1 n ∧ (p16 J j = true ∨ p25 J j = true))) m n (if inB σ 1 ∧ ¬ nIn σ (σ.1.length - 1) ≤ 8 then .inr 44 else .inl (ownC σ (σ.1.length - 1) n (szF J.2.2.1 n)))) := fun y => w327_131 xs (d + N + 1) _ _ m _ (s132 0 false rfl (decide_eq_false y).symm)
  rcases hk with rfl | rfl | rfl
  · refine w327_0 xs (d + N + 1) _ _ m _ ⟨fun w => absurd w (by decide), fun _ => ⟨fun z => absurd rfl z, fun _ => ?_⟩, fun w => absurd w (by decide), fun w => absurd w (by decide), fun w => absurd w (by decide), fun w => absurd w (by decide), fun w => absurd w (by decide), fun w => absurd w (by decide), fun w => absurd w (by decide), fun w => absurd w (by decide), fun _ w => absurd rfl w⟩
    rw [eB]
    exact y_ci (c329 xs (d + N) hR hD (by omega)) (by omega) ⟨fun z => s131 (fun y => y.2 z), fun z => s132 1 true rfl (decide_eq_true ⟨inb.mpr rfl, z⟩).symm⟩
  · exact w327_0 xs (d + N + 1) _ _ m _ ⟨fun w => absurd w (by decide), fun w => absurd w (by decide), fun _ => ⟨fun _ => s131 (fun y => absurd (inb.mp y.1) (by omega)), fun z => absurd z (by decide)⟩, fun w => absurd w (by decide), fun w => absurd w (by decide), fun w => absurd w (by decide), fun w => absurd w (by decide), fun w => absurd w (by decide), fun w => absurd w (by decide), fun w => absurd w (by decide), fun _ _ w => absurd rfl w⟩
  · exact w327_0 xs (d + N + 1) _ _ m _ ⟨fun w => absurd w (by decide), fun w => absurd w (by decide), fun w => absurd w (by decide), fun _ => ⟨fun _ => s131 (fun y => absurd (inb.mp y.1) (by omega)), fun z => absurd z (by decide)⟩, fun w => absurd w (by decide), fun w => absurd w (by decide), fun w => absurd w (by decide), fun w => absurd w (by decide), fun w => absurd w (by decide), fun w => absurd w (by decide), fun _ _ _ w => absurd rfl w⟩
theorem jk_z (xs : List Int32) (d : Nat) {m0 : yM} {T : Nat} {J : JV} {N : Nat} {A : List Nat} {n : Nat} {s : SU} {m : yM} (h : CX m0 T J N A n s m) {k : Nat} (hk : k = 1 ∨ k = 2 ∨ k = 3) (kk : kK J.2.2.1 n = k) : yC (xg xs) (d + N + 2) 327 [.ref 58, .int (nI (J.2.2.2 n)), .int (nI k)] m (fun _ m' => ∀ σ', lk J.2.2.1 A s.1 s.2 n = .inl σ' → m'.1 73 σ'.1.length = m'.1 58 30) := by
  obtain ⟨hn, kn, vn, tn⟩ := h.n
  have hp := h.2.1
  have hF := h.1.1
  have hX := h.2.2.2
  have kb : kK J.2.2.1 n = 1 ∨ kK J.2.2.1 n = 2 ∨ kK J.2.2.1 n = 3 := by omega
  have nx1 : ¬ exK (kK J.2.2.1 n) := by unfold exK; omega
  have nx2 : ¬ (kK J.2.2.1 n = 13 ∨ kK J.2.2.1 n = 19 ∨ kK J.2.2.1 n = 14) := by omega
  have eA := hp.blk hF.2.2.1 kb
  have nA : n ∈ A ++ [n] := List.mem_append_right _ List.mem_cons_self
  obtain ⟨B0, c1, c2⟩ := h.2.2.1.1.1.2.2.2.2 n nA kb
  have at' := hp.1.at
  have bk : bkN (s.1.2.2.1 n) := by rw [kn]; exact (ch37e _ hp.1.k37).mpr kb
  have e : lk J.2.2.1 A s.1 s.2 n = lkBlk J.2.2.1 s.1 := by
    unfold lk
    rw [if_neg (by rcases bk with z | z | z <;> rw [z] <;> decide), if_pos bk]
  have gA : (A ++ [n]).getD 1 (n + szF J.2.2.1 n) = n := by rw [eA]; rfl
  have gA' : A.getD 1 (n + szF J.2.2.1 n) = n + szF J.2.2.1 n := by rw [eA]; rfl
  have hD := h.aD (by omega) (by omega) (by omega)
  have kiff : ∀ i, i < J.2.2.1.length → ∀ q, q < 30 → (s.1.2.2.1 i = nI q ↔ kK J.2.2.1 i = q) := by
    intro i hi q hq
    rcases h.2.2.1.1.1.2.1 i hi with y | ⟨y, z⟩
    · rw [y]; exact nI_eq (by have := hF.2.1 i hi; omega) (by omega)
    · rw [y]
      exact ⟨fun w => by have := (nI_eq (a := 30) (by omega) (by omega)).mp (show nI 30 = nI q from w); omega, fun w => by omega⟩
  obtain ⟨pr, b, eks, hpr, hb⟩ := hp.1.blk kb
  have ne : 0 < (kids J.2.2.1 n).length := by
    have := congrArg List.length eks
    rw [List.length_map, List.length_append, List.length_singleton] at this
    omega
  obtain ⟨l, hl⟩ : ∃ l, (kids J.2.2.1 n)[(kids J.2.2.1 n).length - 1]? = some l := ⟨_, getD_some (d := 0) (by omega)⟩
  have lm := List.mem_of_getElem? hl
  have lz := hp.1.kin lm
  have ll : (kids J.2.2.1 n).length = pr.length + 1 := by
    have := congrArg List.length eks
    rw [List.length_map, List.length_append, List.length_singleton] at this
    exact this
  have h22 : (∃ i, n ≤ i ∧ i < n + szF J.2.2.1 n ∧ s.1.2.2.1 i = 22) ↔ kK J.2.2.1 l = 22 := by
    constructor
    · rintro ⟨i, i1, i2, i3⟩
      have k22 : kK J.2.2.1 i = 22 := (kiff i (by omega) 22 (by omega)).mp i3
      have : ¬ i = n := fun z => by rw [z] at k22; omega
      obtain ⟨c, c1, c2, c3⟩ := hp.1.at_kid (show n < i by omega) i2
      obtain ⟨M, hM⟩ := hF.1 c (hp.1.kin c1).2.2.2.1
      have kc : kK J.2.2.1 c = 22 := by
        rcases Nat.decEq (kK J.2.2.1 c) 22 with z | z
        · exfalso
          have kd := hp.1.kid c1
          have hc : ∀ x, (x = 1 ∨ x = 2 ∨ x = 3) → ∀ y, y ∈ kidK x → ¬ y = 22 → ¬ (y = 0 ∨ y = 1 ∨ y = 2 ∨ y = 3 ∨ y = 22) := by
            intro x hx
            rcases hx with rfl | rfl | rfl <;> decide
          have cl : ∀ k, k < 37 → ¬ (k = 0 ∨ k = 1 ∨ k = 2 ∨ k = 3 ∨ k = 22) → ∀ x, x ∈ kidK k → ¬ (x = 0 ∨ x = 1 ∨ x = 2 ∨ x = 3 ∨ x = 22) := by decide
          have := TW.cl (S := fun k => ¬ (k = 0 ∨ k = 1 ∨ k = 2 ∨ k = 3 ∨ k = 22)) cl M c hM (hc _ kb _ kd z) i c2 c3
          omega
        · exact z
      obtain ⟨j, hj⟩ := List.getElem?_of_mem c1
      have gm : ((kids J.2.2.1 n).map (kK J.2.2.1))[j]? = some 22 := by rw [List.getElem?_map, hj, Option.map_some, kc]
      rw [eks] at gm
      have jl : j < (kids J.2.2.1 n).length := (List.getElem?_eq_some_iff.mp hj).1
      have ej : j = (kids J.2.2.1 n).length - 1 := by
        rcases Nat.lt_or_ge j pr.length with z | z
        · rw [List.getElem?_append_left z] at gm
          exact absurd rfl (hpr 22 (List.mem_of_getElem? gm))
        · omega
      rw [ej, hl] at hj
      rw [Option.some.inj hj]
      exact kc
    · intro z
      exact ⟨l, by omega, lz.2.1, (kiff l lz.2.2.2.1 22 (by omega)).mpr z⟩
  have vlt : ∀ i, i < J.2.2.1.length → kK J.2.2.1 i = 25 → (¬ vF J.2.2.1 i ≤ 1 ↔ ¬ s.1.2.2.2.1 i < 2) := by
    intro i hi ki
    obtain ⟨M, hM⟩ := hF.1 i hi
    have ok := hM.ok
    rw [ki] at ok
    rw [h.2.2.1.1.1.2.2.1 i hi (by rw [ki]; decide)]
    rcases ok.2.1 with z | z | z | z <;> rw [z] <;> decide
  have c := c327_z xs d (N := N) hX.1 hX.2.1 B0 hD hp.1 hk kk c1 (by rw [c2, kk]) (fun i hi hE => by
    have := hE.1
    rw [gA] at this
    omega) (fun i hi ki => by
      obtain ⟨M, hM⟩ := hF.1 i hi
      have ok := hM.ok
      rw [ki] at ok
      exact ok.1) (fun i i1 i2 => by
      have il : i < J.2.2.1.length := by omega
      refine ⟨?_, ?_⟩
      · unfold p16
        rw [decide_eq_true_iff]
        exact or_congr (kiff i il 16 (by omega)).symm (kiff i il 19 (by omega)).symm
      · unfold p25
        rw [decide_eq_true_iff]
        constructor
        · rintro ⟨z1, z2⟩
          exact ⟨(kiff i il 25 (by omega)).mpr z1, (vlt i il z1).mp z2⟩
        · rintro ⟨z1, z2⟩
          have z1 := (kiff i il 25 (by omega)).mp z1
          exact ⟨z1, (vlt i il z1).mpr z2⟩) hl h22 (hF.2.1 l lz.2.2.2.1)
  refine yC.mono (Nat.le_refl _) (fun r m' q σ' hl' => ?_) c
  obtain ⟨q1, q2, q3⟩ := q
  rw [← e, hl'] at q3
  exact q3.2
def JQy (J : JV) (D : Nat → Prop) (m0 : yM) (n : Nat) (R : RS ⊕ Int32) (r : Option Value) (m' : yM) : Prop := JQ J D m0 n R r m' ∧ ((∃ σ', R = .inl σ') → m'.1 = m0.1)
theorem c327_0z (xs : List Int32) (d : Nat) {J : JV} {D : Nat → Prop} {σ : RS} {m : yM} (h : RJ J D σ m) {n : Nat} (hn : n < J.2.2.1.length) (hk : ∀ b, b + 1 < σ.1.length → (σ.1.getD b dBK).1 = 1 ∨ (σ.1.getD b dBK).1 = 2) : yC (xg xs) (d + 2) 327 [.ref 58, .int (nI (J.2.2.2 n)), .int 0] m (JQy J D m n (lkText σ)) := by
  have hT := h.1
  have hR := h.2.1
  have e29 := hR.1.2.2.2.2.2
  unfold lkText
  have s75 : ∀ (u : Int32) (b : Bool), u = (if b = true then 1 else 0) → b = decide (¬ inB σ 3) → yP (xg xs) (d + 2) 327 75 [(0, .ref 58), (1, .int (nI (J.2.2.2 n)))] [.int u, .int (10 : Int32), .ref 58] m (JQy J D m n (if inB σ 3 then (if bsA σ (σ.1.length - 1) ≤ 8192 then .inl σ else .inr 42) else .inr 10)) := by
    intro u b hu hb
    refine w327_75 xs (d + 1) _ _ _ m _ (rlb (by omega) (by decide) hT hn hR.f0 false b hu ?_)
    rw [Bool.false_or]
    have jk : JK m (flb J m 10 n b) := (JK.re m).fb J 10 n b
    refine y_ci (c328m xs d (hT.k jk) hR (fun a i z1 z2 => flb_at _ _ _ _ _ _ _ (by omega)) (jk23 J m 10 n b)) (by omega) ?_
    by_cases ib : inB σ 3
    · rw [if_pos ib, hb, decide_eq_false (fun z => z ib), flb_f]
      have h0 := ib.1
      have e : aS σ σ.1.length 0 0 = bsA σ (σ.1.length - 1) := by
        obtain ⟨k, ek⟩ : ∃ k, σ.1.length = k + 1 := ⟨σ.1.length - 1, by omega⟩
        rw [ek, aS_e, Nat.zero_add]
        have l3 : (σ.1.getD k dBK).1 = 3 := by
          have := ib.2
          unfold curB at this
          rw [ek] at this
          exact this
        rw [l3, if_neg (by decide)]
        have := aS_b σ k 0 0 (fun c z1 z2 => hk c (by omega))
        rw [Nat.zero_add, Int32.zero_add] at this
        rw [show k + 1 - 1 = k by omega, ← this]
        have e0 : bsA σ 0 = cB σ (σ.1.length - 1) := rfl
        rw [e0, ek]
        rfl
      rw [e]
      refine ⟨fun z => ?_, fun z => ?_⟩
      · rw [if_pos z]
        exact w327_97 xs (d + 1) _ _ _ m _ (rl0 ⟨⟨rfl, JK.re m, h⟩, fun _ => rfl⟩)
      · rw [if_neg z]
        exact w327_97 xs (d + 1) _ _ _ m _ (rl1 (by omega) hT hn hR.f0 ⟨⟨rfl, (JK.re m).fl J 42 n, FE.mk J m (by decide) n⟩, fun z => by obtain ⟨_, z⟩ := z; cases z⟩)
    · rw [if_neg ib, hb, decide_eq_true ib, flb_t]
      have fe := FE.mk J m (show (0 : Int32) < 10 by decide) n
      have jk2 := (JK.re m).fl J 10 n
      exact ⟨fun _ => w327_97 xs (d + 1) _ _ _ _ _ (rl0 ⟨⟨rfl, jk2, fe⟩, fun z => by obtain ⟨_, z⟩ := z; cases z⟩), fun _ => w327_97 xs (d + 1) _ _ _ _ _ (rl2 (by omega) (hT.i hn) (Or.inr rfl) fe.ne ⟨⟨rfl, jk2, fe⟩, fun z => by obtain ⟨_, z⟩ := z; cases z⟩)⟩
  refine w327_0 xs (d + 1) _ _ m _ ⟨fun _ => ?_, fun w => absurd w (by decide), fun w => absurd w (by decide), fun w => absurd w (by decide), fun w => absurd w (by decide), fun w => absurd w (by decide), fun w => absurd w (by decide), fun w => absurd w (by decide), fun w => absurd w (by decide), fun w => absurd w (by decide), fun w => absurd rfl w⟩
  rw [e29]
  by_cases ib : inB σ 3
  · rw [if_pos ib]
    exact ⟨fun _ => s75 0 false rfl (decide_eq_false (fun z => z ib)).symm, fun z => absurd z (by decide)⟩
  · rw [if_neg ib]
    exact ⟨fun z => absurd rfl z, fun _ => s75 1 true rfl (decide_eq_true ib).symm⟩
