/-! THE PURE MACHINE IS SAFE: jumps and loops of bodies and units -/
/-- a loop's own cell is nobody else's -/
theorem UQ.nw {m0 : yM} {T : Nat} {F : List ND} {s : SU} {b : Nat} (h : UQ m0 T F s b) {c co lo hi : Nat} (h1 : nB s b ≤ c) (h2 : c < nB s b + szF F (nB s b)) (k : s.1.2.2.1 c = 19) (e : s.1.2.2.2.2 c = nI co) (hco : co < 2 ^ 30) (hlo : c < lo) (hhi : hi ≤ nB s b + szF F (nB s b)) : ¬ WWc s.1 b lo hi co := by
  obtain ⟨c0, d, f, a1, a2, a3, a4, a5, a6, -⟩ := h.2.2.2.2.1 b h.2.2.1 (by simp)
  obtain ⟨g1, g2, g3⟩ := a5 c h1 h2 (Or.inr k)
  have ef : f c = co := by
    rw [e] at g1
    exact ((nI_eq (by omega) (by omega)).mp g1).symm
  rintro (⟨v, v1, v2, v3⟩ | ⟨j, j1, j2, j3, j4⟩)
  · obtain ⟨-, y, hy⟩ := (vOk_i s.1 v).mp v1.2.2
    obtain ⟨cv, zv, e1, e2, e3⟩ := a3 v y v1.1 v1.2.1 hy
    have ec : vC s.1 v = cv := by
      show ((vD s.1 v).2.2.2).toNatClampNeg = _
      rw [vD_s hy, e1, nI_clamp (by omega)]
    have ez : vZ s.1 v = zv := by
      show (szT s.1 (vD s.1 v).2.1).toNatClampNeg = _
      rw [vD_s hy, e2, nI_clamp (by omega)]
    omega
  · obtain ⟨q1, q2, q3⟩ := a5 j (by omega) (by omega) j3
    have lt := a6 c j h1 (by omega) (by omega) (Or.inr k) j3
    rw [j4] at q1
    have := (nI_eq (by omega) (by omega)).mp q1
    omega
theorem wrR_j {σ : RS} {x y : IT} {τ : Nat → Nat} (e1 : y.1 = x.1) (e2 : y.2.2.1 = x.2.2.1) (e3 : y.2.2.2.1 = x.2.2.2.1) (e4 : x.2.2.2.2.1 = 0 → y.2.1 = x.2.1) (hm : ¬ x.2.2.2.2.1 = 0 → x.1 = 10) {r : Nat} (h : wrR σ y r) : wrR σ x r := by
  by_cases q : x.2.2.2.2.1 = 0
  · unfold wrR at h ⊢
    rw [e1, e2, e3, e4 q] at h
    exact h
  · exact absurd h (wrR_no (by rw [e1, hm q]; decide) r)
theorem wB_D {m0 : yM} {T : Nat} {F : List ND} {s : SU} {b : Nat} (h : UQ m0 T F s b) {D : List IT} (hD : D.length ≤ 3000) : ∀ (N ℓ n p : Nat) (τ : Nat → Nat), TW m0 T F N n → nB s b ≤ n → n + szF F n ≤ nB s b + szF F (nB s b) → SJt D p (wB F s.1 N ℓ n p) τ → hAt D p (0, false) → ((hAt D (τ (mX ℓ)) (0, false) ∧ τ (mX ℓ) < 2 ^ 30) ∨ (¬ kK F n = 19 ∧ gX F n)) → GRd s.1 D p (p + (wB F s.1 N ℓ n p).length) := by
  have hS := h.hs
  have hC := h.ck
  intro N
  induction N with
  | zero => intro ℓ n p τ hW; exact absurd hW (fun z => z)
  | succ N ih =>
    intro ℓ n p τ hW hlo hhi hs hz hg
    have wbG : ∀ c, c ∈ kids F n → ∀ p, hT (wT F s.1 (cE F s.1 N) (wB F s.1 N) ℓ c p) 0 0 := fun c hc p => wT_T h hW hlo hhi hc ℓ p
    refine GRd.seq (kids F n) p (fun c hc p => ⟨wbG c hc p, fun hs hz => ?_⟩) hs hz
    have htc := wbG c hc p
    have z := hW.kin hc
    have hWc := hW.2.2.2.2.2.2 c hc
    have inn : ∀ c', c < c' → c' < c + szF F c → TW m0 T F N c' ∧ c' + szF F c' ≤ c + szF F c := fun c' q1 q2 => by
      obtain ⟨M', hM1, hM2⟩ := TW.all N c hWc c' (by omega) q2
      exact ⟨hM2.le hM1, TW.inn N c hWc c' (by omega) q2⟩
    have e0 : ∀ c', c < c' → c' < c + szF F c → pj b (cE F s.1 N c') := fun c' q1 q2 => by
      obtain ⟨i1, i2⟩ := inn c' q1 q2
      exact cE_w hS hC N c' i1 (by omega) (by omega)
    have eT : ∀ c', c < c' → c' < c + szF F c → ¬ xNm F c' → ∀ hh, hT (cE F s.1 N c') hh (hh + 1) := fun c' q1 q2 nx => by
      obtain ⟨i1, i2⟩ := inn c' q1 q2
      exact (cE_G h N c' i1 (by omega) (by omega) nx).2
    have kq : ∀ q, q < 30 → (s.1.2.2.1 c = nI q → kK F c = q) := fun q hq y => h.kk z.2.2.2.1 (by omega) (by omega) y
    have hgc : (hAt D (τ (mX ℓ)) (0, false) ∧ τ (mX ℓ) < 2 ^ 30) ∨ gX F c := hg.imp id (fun w => gX.kid hS.1.1 hW w.1 hc w.2)
    have bT : ∀ (ℓ b' q : Nat), c < b' → b' < c + szF F c → hT (wB F s.1 N ℓ b' q) 0 0 := by
      intro ℓ b' q q1 q2
      obtain ⟨i1, i2⟩ := inn b' q1 q2
      exact (wB_G h N ℓ b' q i1 (by omega) (by omega)).2
    have body : ∀ (μ P b' : Nat), ¬ mX ℓ = μ → c < b' → b' < c + szF F c → (gX F c → ¬ kK F b' = 19 ∧ gX F b') → ∀ q, hT (wB F s.1 N ℓ b' q) 0 0 ∧ (SJt D q (wB F s.1 N ℓ b' q) (fun ν => if ν = μ then P else τ ν) → hAt D q (0, false) → GRd s.1 D q (q + (wB F s.1 N ℓ b' q).length)) := by
      intro μ P b' hμ q1 q2 hgb q
      obtain ⟨i1, i2⟩ := inn b' q1 q2
      refine ⟨bT ℓ b' q q1 q2, fun hsb hzb => ih ℓ b' q _ i1 (by omega) (by omega) hsb hzb ?_⟩
      rcases hgc with w | w
      · left
        show hAt D (if mX ℓ = μ then P else τ (mX ℓ)) (0, false) ∧ (if mX ℓ = μ then P else τ (mX ℓ)) < 2 ^ 30
        rw [if_neg hμ]
        exact w
      · exact Or.inr (hgb w)
    have iv : ∀ L, (∀ x, x ∈ L → pj b (cE F s.1 N (x + 1))) → pj b (wIv F s.1 (cE F s.1 N) L) := by
      intro L
      induction L with
      | nil => intro _; exact pj.nil
      | cons c L ih => exact fun h => (h c List.mem_cons_self).app ((pv.i1 (by decide)).j.app (ih (fun x hx => h x (List.mem_cons_of_mem _ hx))))
    generalize hX : wT F s.1 (cE F s.1 N) (wB F s.1 N) ℓ c p = X at *
    have okc := hWc.ok
    have zE := hAt_T hs hz htc
    unfold wT at hX
    by_cases c12 : s.1.2.2.1 c = 12
    · rw [if_pos c12] at hX
      have kc := kq 12 (by omega) c12
      rw [kc] at okc
      obtain ⟨-, a, b', ha, hb', eks⟩ := okc
      obtain ⟨q1, q2, q3, q4, q5⟩ := hWc.k2 eks
      have m1 : c + 1 ∈ kids F c := by rw [q1]; exact List.mem_cons_self
      have m2 : c + 1 + szF F (c + 1) ∈ kids F c := by rw [q1]; exact List.mem_cons_of_mem _ List.mem_cons_self
      have z1 := hWc.kin m1
      have z2 := hWc.kin m2
      have y2 := e0 _ z2.1 z2.2.1
      refine GRd.plain (U := b) ?_ hs
      rw [← hX]
      split
      · rename_i k32
        obtain ⟨M', hM'⟩ := hS.1.1 (c + 1) z1.2.2.2.1
        have k32' := h.kk (n := c + 1) (k := 32) z1.2.2.2.1 (by omega) (by omega) k32
        have ok1 := hM'.ok
        rw [k32'] at ok1
        obtain ⟨-, a', ha', eks'⟩ := ok1
        obtain ⟨r1, r2, r3, r4⟩ := hM'.k1 eks'
        have zz := hM'.kin (show c + 1 + 1 ∈ kids F (c + 1) by rw [r1]; exact List.mem_cons_self)
        exact (e0 (c + 2) (by omega) (by omega)).app (y2.app (pv.i (by decide)).j)
      · exact y2.app (pv.i1 (by decide)).j
    rw [if_neg c12] at hX
    by_cases c13 : s.1.2.2.1 c = 13
    · rw [if_pos c13] at hX
      have kc := kq 13 (by omega) c13
      rw [kc] at okc
      refine GRd.plain (U := b) ?_ hs
      rw [← hX]
      refine (iv _ (fun x hx => ?_)).app (fun y hy => ?_)
      · have zx := hWc.kin hx
        have k14 := hWc.mk okc.2 hx
        obtain ⟨M', hM'⟩ := hS.1.1 x zx.2.2.2.1
        have okx := hM'.ok
        rw [k14] at okx
        obtain ⟨-, a, ha, eks⟩ := okx
        obtain ⟨r1, r2, r3, r4⟩ := hM'.k1 eks
        have zk := hM'.kin (show x + 1 ∈ kids F x by rw [r1]; exact List.mem_cons_self)
        exact e0 (x + 1) (by omega) (by omega)
      · rw [List.mem_singleton.mp hy]
        split
        · rename_i q9
          obtain ⟨b', b1, b2⟩ := (hC c (by omega) (by omega)).2.1 c13 q9
          exact ⟨rfl, by show ¬ (15 : Int32) = 10; decide, by show ¬ (15 : Int32) = 11; decide, by show ¬ (15 : Int32) = 13; decide, by show ¬ (15 : Int32) = 14; decide, fun _ => ⟨b', b1, b2⟩⟩
        · exact ⟨rfl, by show ¬ (17 : Int32) = 10; decide, by show ¬ (17 : Int32) = 11; decide, by show ¬ (17 : Int32) = 13; decide, by show ¬ (17 : Int32) = 14; decide, fun w => by
            have w : (17 : Int32) = 15 ∨ (17 : Int32) = 16 := w
            exact absurd w (by decide)⟩
    rw [if_neg c13] at hX
    by_cases c15 : s.1.2.2.1 c = 15
    · rw [if_pos c15] at hX
      have kc := kq 15 (by omega) c15
      rw [← hX] at hs zE ⊢
      rw [res_len] at zE ⊢
      by_cases zz : 0 < (wIf c (cE F s.1 N) (wB F s.1 N ℓ) (kids F c) p).length
      · have hl := hs.le (by rw [res_len]; exact zz)
        rw [res_len] at hl
        have hs := hs.rs (by unfold mE; omega)
        refine GRd.ifL (U := b) hD ?_ _ _ _ (Nat.le_refl _) (fun b' hb q => ?_) (fun x hx => ⟨e0 x (hWc.kin hx).1 (hWc.kin hx).2.1, ?_⟩) hs hz
        · show hAt D (if mE c = mE c then _ else _) (0, false) ∧ (if mE c = mE c then _ else _) < 2 ^ 30
          rw [if_pos rfl]
          exact ⟨zE, by omega⟩
        · have zb := hWc.kin hb
          exact body _ _ b' (by unfold mX mE; omega) zb.1 zb.2.1 (fun w => ⟨hWc.mk (p := fun x => ¬ x = 19) (fun x hx => by
            rw [kc] at okc
            have := okc_15 okc hx
            omega) hb, gX.kid hS.1.1 hWc (by omega) hb w⟩) q
        · have nx : ¬ xNm F x := by
            rw [kc] at okc
            rcases okc_15 okc (List.mem_map_of_mem hx) with w | w
            · exact fun y => by have := y.1; omega
            · exact (hS.kid hWc z.2.2.2.1 hx (by omega) w).2.2
          exact eT x (hWc.kin hx).1 (hWc.kin hx).2.1 nx 0
      · rw [show (wIf c (cE F s.1 N) (wB F s.1 N ℓ) (kids F c) p).length = 0 by omega]
        exact GRd.nil
    rw [if_neg c15] at hX
    by_cases c16 : s.1.2.2.1 c = 16
    · rw [if_pos c16] at hX
      have kc := kq 16 (by omega) c16
      rw [← hX] at hs zE ⊢
      rw [res_len] at zE ⊢
      have hl := hs.le (by rw [res_len, List.length_append, List.length_append, List.length_singleton]; omega)
      rw [res_len] at hl
      have hs := hs.rs (by unfold mE; omega)
      rw [kc] at okc
      obtain ⟨-, e1, cs, s1, o1, o2, o3, o4⟩ := okc
      obtain ⟨g1, g2, g3⟩ := hWc.k0 o4
      have z1 := hWc.kin g2
      have nx := (hS.kid hWc z.2.2.2.1 g2 (by omega) (by rw [g3]; exact o1)).2.2
      obtain ⟨co, co1, co2⟩ := h.o (j := c) (by omega) (by omega) (Or.inl c16)
      have y1 := hAt_T hs.l hz (eT _ z1.1 z1.2.1 nx 0)
      have y2 := hAt_T hs.r.l y1 (hT.i (hS_2 0))
      have hE : hAt D ((fun ν => if ν = mE c then p + (cE F s.1 N (c + 1) ++ ([j1 2 (s.1.2.2.2.2 c)] ++ wCs F s.1 c (wB F s.1 N ℓ) (kids F c).tail (p + (cE F s.1 N (c + 1)).length + 1))).length else τ ν) (mE c)) (0, false) ∧ (fun ν => if ν = mE c then p + (cE F s.1 N (c + 1) ++ ([j1 2 (s.1.2.2.2.2 c)] ++ wCs F s.1 c (wB F s.1 N ℓ) (kids F c).tail (p + (cE F s.1 N (c + 1)).length + 1))).length else τ ν) (mE c) < 2 ^ 30 := by
        dsimp only
        rw [if_pos rfl]
        exact ⟨zE, by omega⟩
      have r := GRd.csL (F := F) (u := b) co1 co2 hD hE (kids F c).tail _ (fun b' hb => ?_) hs.r.r y2
      · rw [List.length_append, List.length_append, ← Nat.add_assoc, ← Nat.add_assoc]
        exact (GRd.plain (e0 _ z1.1 z1.2.1) hs.l).app ((GRd.plain (U := b) ((pv.i1 (by decide)).j) hs.r.l).app r)
      · have kb' : kK F b' ∈ cs ++ s1 := by
          have : kK F b' ∈ ((kids F c).tail).map (kK F) := List.mem_map_of_mem hb
          rw [List.map_tail, o4] at this
          exact this
        have hb := List.mem_of_mem_tail hb
        have zb := hWc.kin hb
        have k1711 : kK F b' = 17 ∨ kK F b' = 11 := by
          rcases List.mem_append.mp kb' with w | w
          · exact Or.inl (o2 _ w)
          · rcases o3 with y | y
            · rw [y] at w; cases w
            · rw [y] at w; exact Or.inr (List.mem_singleton.mp w)
        have gb : gX F c → gX F b' := fun w => gX.kid hS.1.1 hWc (by omega) hb w
        refine ⟨fun _ => body _ _ b' (by unfold mX mE; omega) zb.1 zb.2.1 (fun w => ⟨by omega, gb w⟩), fun q => ?_⟩
        have k17 : kK F b' = 17 := by
          rcases k1711 with w | w
          · exact w
          · exfalso
            apply q
            rcases hS.ks zb.2.2.2.1 with y | ⟨y, w'⟩
            · rw [y, w]; rfl
            · omega
        obtain ⟨M', hM'⟩ := hS.1.1 b' zb.2.2.2.1
        obtain ⟨-, -, k11, bm, -, -⟩ := k17_s hM' k17
        have zl := hM'.kin bm
        exact ⟨rgK_ne hM' k17, body _ _ _ (by unfold mX mE; omega) (by omega) (by omega) (fun w => ⟨by omega, gX.kid hS.1.1 hM' (by omega) bm (gb w)⟩)⟩
    rw [if_neg c16] at hX
    by_cases c19 : s.1.2.2.1 c = 19
    · rw [if_pos c19] at hX
      have kc := kq 19 (by omega) c19
      obtain ⟨-, -, -, k11, bm⟩ := k19_s (J := jvF F) hS hWc kc
      have zb := hWc.kin bm
      obtain ⟨i1, i2⟩ := inn _ zb.1 zb.2.1
      have n37 := h.n37
      obtain ⟨co, co1, co2⟩ := h.o (j := c) (by omega) (by omega) (Or.inr c19)
      obtain ⟨v0, w1, w2, -⟩ := (h.c (j := c) (by omega) (by omega) z.2.2.2.1).1 (Or.inr (Or.inr (Or.inl kc)))
      obtain ⟨v, v1, v2, v3, v4⟩ := h.g ⟨v0, w1, w2⟩ ((hS.v z.2.2.2.1).2.2.2.1 kc)
      obtain ⟨cc, sz, a1, a2, a3, a4, a5, -⟩ := h.v v3
      have a5 := a5 v4
      have ecl : clV s.1 c = nI cc := by unfold clV; rw [v2]; exact a1
      have nwv : ¬ cc = co := fun w => h.nw (lo := c + 1) (hi := c + 1) (by omega) (by omega) c19 co1 (by omega) (by omega) (by omega) (Or.inl ⟨v, v3, by omega, by omega⟩)
      rw [← hX] at hs zE ⊢
      have el : (fr1 s.1 c ++ (((13, s.1.2.2.2.2 c, nI (p + 9 + (wB F s.1 N c (bdF s.1 c) (p + 4)).length), 0, 0, 0) : IT) :: (wB F s.1 N c (bdF s.1 c) (p + 4) ++ fr2 s.1 c p))).length = 9 + (wB F s.1 N c (bdF s.1 c) (p + 4)).length := by
        rw [List.length_append, List.length_cons, List.length_append]
        show 3 + (_ + 5 + 1) = _
        omega
      have hl := hs.le (by rw [res_len, el]; omega)
      rw [res_len, el] at hl zE ⊢
      have hs := hs.rs (by unfold mX; omega)
      have hbs := hs.r.tl.l
      have hit := (wB_G h N c (bdF s.1 c) (p + 4) i1 (by omega) (by omega)).1
      have zE' : hAt D (p + 9 + (wB F s.1 N c (bdF s.1 c) (p + 4)).length) (0, false) := by rw [Nat.add_assoc]; exact zE
      have z3 : hAt D (p + 4) (0, false) := by
        have t0 : hR [j1 0 (s.1.2.2.2.1 (c + 1)), j1 2 (clV s.1 c), j3 12 (s.1.2.2.2.2 c) (tms s.1 c).toInt32 0] (0, false) = some (0, true) := rfl
        have q1 := hAt_C (fr1 s.1 c) p _ _ hs.l hz t0
        exact hAt_C [_] (p + 3) _ (0, false) (SJt.l (C := [_]) hs.r) q1 rfl
      have inner := ih c (bdF s.1 c) (p + 4) _ i1 (by omega) (by omega) hbs z3 (Or.inl ⟨by rw [if_pos rfl]; exact zE', by rw [if_pos rfl]; omega⟩)
      have hf2 := hs.r.tl.r
      generalize hBl : (wB F s.1 N c (bdF s.1 c) (p + 4)).length = Bl at *
      have hnx := hs.r.hd
      have hct := (SJt.r (C := [_, _]) (E := [_]) hs.l).hd
      have f1 : pj b (fr1 s.1 c) := (pv.app (D := [_]) (pv.i1 (by decide)) (pv.app (D := [_]) (pv.i1 (by decide)) (pv.i (by decide)))).j
      have f2 : pj b [j1 1 (clV s.1 c), j1 0 (stp s.1 c), j1 7 (if tyV s.1 (s.1.2.2.2.1 c).toNatClampNeg = 1 then 0 else 5), j1 2 (clV s.1 c)] := (pv.app (D := [_]) (pv.i1 (by decide)) (pv.app (D := [_]) (pv.i1 (by decide)) (pv.app (D := [_]) (pv.i1 (by decide)) (pv.i1 (by decide))))).j
      have hf2' : SJt D (p + 4 + Bl) ([j1 1 (clV s.1 c), j1 0 (stp s.1 c), j1 7 (if tyV s.1 (s.1.2.2.2.1 c).toNatClampNeg = 1 then 0 else 5), j1 2 (clV s.1 c)] ++ [j1 14 (nI (p + 3))]) (fun ν => if ν = mX c then p + 9 + Bl else τ ν) := hf2
      have hbk := hf2'.r.hd
      have nx3 : (D.getD (p + 3) dIT).1 = 13 := hnx.2.1
      have nb3 : (D.getD (p + 3) dIT).2.2.1 = nI (p + 9 + Bl) := hnx.2.2.1
      have na3 : (D.getD (p + 3) dIT).2.1 = s.1.2.2.2.2 c := hnx.2.2.2.1 rfl
      have na2 : (D.getD (p + 2) dIT).2.1 = s.1.2.2.2.2 c := hct.2.2.2.1 rfl
      have bk : (D.getD (p + 4 + Bl + 4) dIT).1 = 14 := hbk.2.1
      have bka : (D.getD (p + 4 + Bl + 4) dIT).2.1 = nI (p + 3) := hbk.2.2.2.1 rfl
      have e3 : nx D (p + 3) = p + 9 + Bl := by unfold nx; rw [nx3, if_pos rfl, nb3, nI_clamp (by omega)]
      have g13 : gdJ s.1 D (p + 3) := by
        refine ⟨fun w => by rw [nx3] at w; exact absurd w (by decide), fun _ => ⟨?_, ?_, ?_, fun kk k1 k2 hw => ?_⟩⟩
        · rw [show p + 3 - 1 = p + 2 by omega, na2, na3]
        · rw [e3, show p + 9 + Bl - 1 = p + 4 + Bl + 4 by omega]
          exact bka
        · rw [e3]
          exact zE'
        · rw [e3] at k2
          rw [na3, co1, nI_clamp (by omega)] at hw
          rcases Nat.lt_or_ge kk (p + 4 + Bl) with y | y
          · obtain ⟨Y, y1, y2, y3, y4, y5, -⟩ := hbs (kk - (p + 4)) _ (getD_some (d := dIT) (by omega))
            have eY : D.getD kk dIT = Y := by
              rw [List.getD_eq_getElem?_getD, show kk = p + 4 + (kk - (p + 4)) by omega]
              have y1 : D[p + 4 + (kk - (p + 4))]? = some Y := y1
              rw [y1]
              rfl
            rw [eY] at hw
            obtain ⟨t1, t2⟩ := hit _ (List.mem_of_getElem? (getD_some (d := dIT) (show kk - (p + 4) < (wB F s.1 N c (bdF s.1 c) (p + 4)).length by omega)))
            have hw' := wrR_j (τ := τ) y2 y3 y4 y5 t2 hw
            exact h.nw (by omega) (by omega) c19 co1 (by omega) zb.1 (by omega) (t1.2.2.2.2.2.2.2 co hw')
          · have k5 : kk - (p + 4 + Bl) < 5 := by omega
            obtain ⟨Y, y1, y2, y3, y4, y5, -⟩ := hf2 (kk - (p + 4 + Bl)) ((fr2 s.1 c p).getD (kk - (p + 4 + Bl)) dIT) (getD_some (d := dIT) (show kk - (p + 4 + Bl) < (fr2 s.1 c p).length from k5))
            have eY : D.getD kk dIT = Y := by
              rw [List.getD_eq_getElem?_getD, show kk = p + 4 + Bl + (kk - (p + 4 + Bl)) by omega]
              have y1 : D[p + 4 + Bl + (kk - (p + 4 + Bl))]? = some Y := y1
              rw [y1]
              rfl
            rw [eY] at hw
            have hm : ∀ q, q < 5 → ((fr2 s.1 c p).getD q dIT).2.2.2.2.1 = 0 ∧ (¬ wrR s.1 ((fr2 s.1 c p).getD q dIT) co) := by
              intro q hq
              rcases (show q = 0 ∨ q = 1 ∨ q = 2 ∨ q = 3 ∨ q = 4 by omega) with rfl | rfl | rfl | rfl | rfl
              · exact ⟨rfl, wrR_no (by show ¬ (1 : Int32) = 2 ∧ ¬ (1 : Int32) = 12 ∧ ¬ (1 : Int32) = 13 ∧ ¬ (1 : Int32) = 4 ∧ ¬ (1 : Int32) = 15 ∧ ¬ (1 : Int32) = 17; decide) co⟩
              · exact ⟨rfl, wrR_no (by show ¬ (0 : Int32) = 2 ∧ ¬ (0 : Int32) = 12 ∧ ¬ (0 : Int32) = 13 ∧ ¬ (0 : Int32) = 4 ∧ ¬ (0 : Int32) = 15 ∧ ¬ (0 : Int32) = 17; decide) co⟩
              · exact ⟨rfl, wrR_no (by show ¬ (7 : Int32) = 2 ∧ ¬ (7 : Int32) = 12 ∧ ¬ (7 : Int32) = 13 ∧ ¬ (7 : Int32) = 4 ∧ ¬ (7 : Int32) = 15 ∧ ¬ (7 : Int32) = 17; decide) co⟩
              · refine ⟨rfl, ?_⟩
                show ¬ wrR s.1 (j1 2 (clV s.1 c)) co
                rintro (⟨-, w⟩ | ⟨w, -⟩ | ⟨w, -⟩ | ⟨w, -⟩)
                · have w : co = (clV s.1 c).toNatClampNeg := w
                  rw [ecl, nI_clamp (by omega)] at w
                  exact nwv w.symm
                · have w : (2 : Int32) = 4 := w
                  exact absurd w (by decide)
                · have w : (2 : Int32) = 15 := w
                  exact absurd w (by decide)
                · have w : (2 : Int32) = 17 := w
                  exact absurd w (by decide)
              · exact ⟨rfl, wrR_no (by show ¬ (14 : Int32) = 2 ∧ ¬ (14 : Int32) = 12 ∧ ¬ (14 : Int32) = 13 ∧ ¬ (14 : Int32) = 4 ∧ ¬ (14 : Int32) = 15 ∧ ¬ (14 : Int32) = 17; decide) co⟩
            obtain ⟨m1, m2⟩ := hm _ k5
            exact m2 (wrR_j (τ := τ) y2 y3 y4 y5 (fun w => absurd m1 w) hw)
      have g14 : gdJ s.1 D (p + 4 + Bl + 4) := ⟨fun w => by rw [bk] at w; exact absurd w (by decide), fun w => by rw [bk] at w; exact absurd w (by decide)⟩
      have r1 := GRd.plain (σ := s.1) f1 hs.l
      have r3 := GRd.plain (σ := s.1) f2 hf2'.l
      have r1 : GRd s.1 D p (p + 3) := r1
      have r3 : GRd s.1 D (p + 4 + Bl) (p + 4 + Bl + 4) := r3
      have := r1.app ((GRd.one g13).app (inner.app (r3.app (GRd.one g14))))
      rw [show p + (9 + Bl) = p + 4 + Bl + 4 + 1 by omega]
      exact this
    rw [if_neg c19] at hX
    by_cases c20 : s.1.2.2.1 c = 20
    · rw [if_pos c20] at hX
      have kc := kq 20 (by omega) c20
      have ho := hgc.elim id (fun w => absurd kc (w.no (hWc.at).2))
      rw [← hX] at hs ⊢
      have h1 := hs.hd
      have o1 : (D.getD p dIT).1 = 10 := h1.2.1
      have a1 : (D.getD p dIT).2.1 = nI (τ (mX ℓ)) := h1.2.2.2.2 (by show ¬ mX ℓ = 0; unfold mX; omega)
      exact GRd.one (gdJ_11 (Or.inl o1) a1 ho.2 ho.1)
    · rw [if_neg c20] at hX
      rw [← hX] at hs ⊢
      exact GRd.plain (U := b) (pv.i1 (by decide)).j hs
theorem unC_D {m0 : yM} {T : Nat} {F : List ND} {s : SU} {b : Nat} (h : UQ m0 T F s b) (hL : (unC F s.1 186 b).length ≤ 3000) : GRd s.1 (unC F s.1 186 b) 0 (unC F s.1 186 b).length := by
  have hS := h.hs
  have hz := h.1.1.1
  obtain ⟨nl, kb⟩ := hz.2.2.2.1 b h.2.2.1
  have hW := HZ.w hz nl
  have h0 := unC_0 hz h.2.2.1
  have si : SJt (unC F s.1 186 b) 0 (unC F s.1 186 b) (fun _ => 0) := fun i x hx => ⟨x, by rw [Nat.zero_add]; exact hx, rfl, rfl, rfl, fun _ => rfl, fun w => absurd (h0 x (List.mem_of_getElem? hx)) w⟩
  have key : ∀ D : List IT, D.length ≤ 3000 → SJt D 0 (unC F s.1 186 b) (fun _ => 0) → GRd s.1 D 0 (unC F s.1 186 b).length := by
    intro D hD si
    unfold unC at si ⊢
    rw [List.length_append]
    have a := GRd.plain (σ := s.1) (U := b) (bgC_v s.1 b).j si.l
    have zb := hAt_T si.l (hAt_0 D) (bgC_G h).2
    have sr := si.r
    rw [Nat.zero_add] at a zb sr
    refine a.app (GRd.seq _ _ (fun c hc p => ⟨unT_T h hc p, fun hs hz' => ?_⟩) sr zb)
    have hWc := hW.2.2.2.2.2.2 c hc
    have z := hW.kin hc
    have z : nB s b < c ∧ c < nB s b + szF F (nB s b) ∧ c + szF F c ≤ nB s b + szF F (nB s b) ∧ c < F.length ∧ 0 < szF F c := z
    by_cases k11 : kK F c = 11
    · have e : ∀ p, unT F s.1 186 ((s.1.1.getD b dBK).2.2.2.1 - 156) c p = wB F s.1 186 0 c p := fun p => by unfold unT; rw [if_pos k11]
      rw [e] at hs ⊢
      exact wB_D h hD 186 0 c p _ hWc (by omega) (by omega) hs hz' (Or.inr ⟨by omega, gX_of hS.1.1 hz.2.2.1 hW kb hc⟩)
    · by_cases k22 : kK F c = 22
      · have e : ∀ p, unT F s.1 186 ((s.1.1.getD b dBK).2.2.2.1 - 156) c p = laC F s.1 ((s.1.1.getD b dBK).2.2.2.1 - 156) (kids F c) := fun p => by unfold unT; rw [if_neg k11, if_pos k22]
        rw [e] at hs ⊢
        exact GRd.plain (U := b) (laC_v F s.1 _ _).j hs
      · have e : ∀ p, unT F s.1 186 ((s.1.1.getD b dBK).2.2.2.1 - 156) c p = [] := fun p => by unfold unT; rw [if_neg k11, if_neg k22]
        rw [e]
        exact GRd.nil
  exact key _ hL si
