/-! THE REFERENCE'S RULES: an element; two operands -/
theorem c354_32 (xs : List Int32) (d : Nat) {J : JV} (hN : JN J) {D : Nat → Prop} {σ : RS} {m : yM} (h : RJ J D σ m) (h0 : 0 < σ.1.length) (hd : dsB σ) (hD : allD σ) {n : Nat} (hn : n < J.2.2.1.length) (hK : kids J.2.2.1 n = [n + 1]) (k1 : exK (kK J.2.2.1 (n + 1))) (d1 : D (n + 1)) (kn : kK J.2.2.1 n = 32) (ks : σ.2.2.1 n = 32) (hvt : ¬ vtF J.2.2.1 n = 0) (hv : σ.2.2.2.1 n = vF J.2.2.1 n) : yC (xg xs) (d + 4) 354 [.ref 58, .int (nI (J.2.2.2 n)), .int 32] m (JQ J (fun i => D i ∨ i = n) m n (lkElem σ n)) := by
  have hT := h.1
  have hR := h.2.1
  have n1 := (h.n d1).1
  have c1 := hT.c n1
  have x1 := hT.x n1
  have ei := hT.c hn
  have xi := hT.x hn
  have n2 := hR.nV.2
  have nei : ¬ J.2.2.2 (n + 1) = J.2.2.2 n := fun z => by have := hT.2.2.1 _ _ n1 hn z; omega
  have t84 := h.t d1 k1
  have e0 := hT.k0 hn (c := n + 1) (by rw [hK]; rfl)
  refine w354_0 xs (d + 3) _ _ m _ ⟨fun w => absurd w (by decide), fun w => absurd w (by decide), fun _ => ?_, fun w => absurd w (by decide), fun w => absurd w (by decide), fun w => absurd w (by decide), fun _ _ w => absurd rfl w⟩
  refine y_ci (c344 xs d hN hT hR h0 hd hD hn hvt (s := 1) (form := 9) (Or.inr (Or.inl ⟨rfl, rfl⟩))) (by omega) ?_
  unfold lkElem
  rw [hv]
  generalize hX : vF J.2.2.1 n = x at hv
  have bad : ∀ c : Int32, 0 < c → JQ J (fun i => D i ∨ i = n) m n (.inr c) none (y_si (flM2 J m c n) 85 (J.2.2.2 n) (fVar σ x)) ∧ ¬ (y_si (flM2 J m c n) 85 (J.2.2.2 n) (fVar σ x)).1 58 3 = 0 := by
    intro c hc
    have fe := FE.mk J m hc n
    exact ⟨⟨rfl, ((JK.re m).fl J c n).si (by omega), by rw [y_si_at, if_neg (by omega)]; exact fe.1, fe.2.1, by rw [y_si_at, if_neg (by omega)]; exact fe.2.2⟩, by rw [y_si_at, if_neg (by omega)]; exact fe.ne⟩
  unfold nmF
  rcases fVar_c σ x with q1 | ⟨v, v1, v2, v3⟩
  · rw [if_pos q1, if_pos q1, if_neg (by decide)]
    obtain ⟨b1, b2⟩ := bad 20 (by decide)
    exact ⟨fun _ => b1, fun z => absurd z b2⟩
  · have q1 : ¬ fVar σ x = -1 := by rw [v2]; exact nI_m1 (by omega)
    rw [if_neg q1, if_neg q1]
    by_cases q2 : frm σ (fVar σ x).toNatClampNeg = 9
    · rw [if_pos q2, if_pos q2, if_pos rfl]
      have vo := hD v v1
      have cv : (nI v).toNatClampNeg = v := nI_clamp (by omega)
      rw [v2, cv] at q2 ⊢
      have xv : x_in (nI v) 4700 = true := x_in_nI (by omega) (by decide)
      have jk : JK m (y_si m 85 (J.2.2.2 n) (nI v)) := (JK.re m).si (by omega)
      have hR2 : RB J σ (y_si m 85 (J.2.2.2 n) (nI v)) := hR.fr (fun a i h1 h2 => by rw [y_si_at, if_neg (by omega)]) (fun i hi => by rw [y_si_at, if_neg (by omega)])
      have a66 : (y_si m 85 (J.2.2.2 n) (nI v)).1 66 (J.2.2.2 n) = nI (J.2.2.2 (n + 1)) := by rw [y_si_at, if_neg (by omega)]; exact e0
      have a84 : (y_si m 85 (J.2.2.2 n) (nI v)).1 84 (J.2.2.2 (n + 1)) = σ.2.2.2.2 (n + 1) := by rw [y_si_at, if_neg (by omega)]; exact t84
      have a85 : (y_si m 85 (J.2.2.2 n) (nI v)).1 85 (J.2.2.2 n) = nI v := by rw [y_si_same]
      have hT2 := hT.k jk
      have g2 : ∀ a i, a < 89 → ¬ (83 < a ∧ i = J.2.2.2 n) → (y_si m 85 (J.2.2.2 n) (nI v)).1 a i = m.1 a i := fun a i h1 h2 => by rw [y_si_at, if_neg (by omega)]
      generalize y_si m 85 (J.2.2.2 n) (nI v) = m2 at jk hR2 a66 a84 a85 hT2 g2 ⊢
      have f2 := hR2.f0
      obtain ⟨-, hv2⟩ := hR2.d vo
      refine ⟨fun z => absurd f2 z, fun _ => ⟨xi, ?_⟩⟩
      rw [ei, a66, c1, a84]
      refine ⟨x1, fun w => ?_, fun w => ?_⟩
      · rw [if_neg w]
        refine w354_136 xs (d + 3) _ _ _ _ m2 _ (rl0 ⟨xv, xi, xi, ?_⟩)
        rw [ei, cv, tyV_r hv2 (Or.inr q2)]
        have ty : tyV (setV σ n (nI v)) v = tyV σ v := by
          unfold tyV frm vD setV
          dsimp only
          unfold frm vD at q2
          rw [if_pos q2, if_pos q2]
        rw [ty]
        have jk3 : JK m (y_si (y_si m2 84 (J.2.2.2 n) (tyV σ v)) 87 (J.2.2.2 n) (vp_nar .boolean 0)) := (jk.si (by omega)).si (by omega)
        refine ⟨rfl, jk3, RJ.ex h hn (by omega) jk3 (fun a i h1 h2 => ?_) (fun a i h1 h2 h3 => ?_) (fun i hi => ?_) ⟨_, _, _, setVT_u σ n _ _, fun z => by omega⟩ ?_⟩
        · rw [y_si_at, if_neg (by omega), y_si_at, if_neg (by omega), g2 a i (by omega) (by omega)]
        · rw [y_si_at, if_neg (fun z => h3 z.2), y_si_at, if_neg (fun z => h3 z.2), g2 a i h2 (fun z => h3 z.2)]
        · rw [y_si_at, if_neg (by omega), y_si_at, if_neg (by omega), g2 58 i (by omega) (by omega)]
        · have nc : ¬ cnP (setT (setV σ n (nI v)) n (tyV σ v)) n := by
            unfold cnP setT setV
            dsimp only
            rw [ks]
            decide
          refine ⟨fun _ => ⟨?_, ?_, fun z => absurd z nc⟩, fun _ => ?_, fun z => by omega, fun z => by omega⟩
          · rw [y_si_at, if_neg (by omega), y_si_same]; exact (upI_n _ _ _).symm
          · rw [y_si_same, if_neg nc]; rfl
          · rw [y_si_at, if_neg (by omega), y_si_at, if_neg (by omega), a85]; exact (upI_n _ _ _).symm
      · rw [if_pos w]
        refine w354_136 xs (d + 3) _ _ _ _ m2 _ (rl1 (by omega) hT2 hn f2 ⟨xv, xi, xi, ?_⟩)
        have fe := FE.mk J m2 (show (0 : Int32) < 22 by decide) n
        rw [ei]
        refine ⟨rfl, ((jk.fl J 22 n).si (by omega)).si (by omega), ?_, fe.2.1, ?_⟩
        · rw [y_si_at, if_neg (by omega), y_si_at, if_neg (by omega)]; exact fe.1
        · rw [y_si_at, if_neg (by omega), y_si_at, if_neg (by omega)]; exact fe.2.2
    · rw [if_neg q2, if_neg q2, if_neg (by decide)]
      obtain ⟨b1, b2⟩ := bad 21 (by decide)
      exact ⟨fun _ => b1, fun z => absurd z b2⟩
abbrev ty3 (x : Int32) : Prop := x = 0 ∨ x = 1 ∨ x = 2
def wdr (x y : Int32) : Int32 := if x = 2 ∨ y = 2 then 2 else 1
theorem c359 (xs : List Int32) (d : Nat) (m : yM) (x y : Int32) : yC (xg xs) (d + 1) 359 [.int x, .int y] m (fun r m' => r = some (.int (wdr x y)) ∧ m' = m) := by
  unfold wdr
  refine w359_0 xs d _ _ m _ ⟨fun u => ⟨?_, rfl⟩, fun u => ⟨fun v => ⟨?_, rfl⟩, fun v => ⟨?_, rfl⟩⟩⟩
  · rw [if_pos (Or.inl u)]
  · rw [if_neg (fun z => z.elim u v)]
  · rw [if_pos (Or.inr v)]
theorem c365 (xs : List Int32) (d : Nat) {J : JV} {m : yM} (hT : JT J m) {n : Nat} (hn : n < J.2.2.1.length) {j : Nat} (hj : j < 14) (e : m.1 64 (J.2.2.2 n) = nI j) : yC (xg xs) (d + 1) 365 [.ref 58, .int (nI (J.2.2.2 n))] m (fun r m' => r = some (.int (nTwo (nI j) (m.1 84 (J.2.2.2 n)))) ∧ m' = m) := by
  have xi := hT.x hn
  refine w365_0 xs d _ m _ ⟨xi, ?_⟩
  rw [hT.c hn, e]
  unfold nTwo
  have k3 : 9 ≤ nI j → 3 ≤ nI j ∧ 8 < nI j ∧ nI j - 4 = nI j - 9 + 5 ∧ nI j - 9 = nI j - 9 + 0 := by
    have : ∀ j, j < 14 → (9 ≤ nI j → 3 ≤ nI j ∧ 8 < nI j ∧ nI j - 4 = nI j - 9 + 5 ∧ nI j - 9 = nI j - 9 + 0) := by decide +kernel
    exact this j hj
  have k4 : ¬ 9 ≤ nI j → ¬ nI j = 0 ∧ ¬ nI j = 1 ∧ ¬ nI j = 2 → 3 ≤ nI j ∧ ¬ 8 < nI j ∧ nI j + 10 = 13 + nI j - 3 := by
    have : ∀ j, j < 14 → (¬ 9 ≤ nI j → ¬ nI j = 0 ∧ ¬ nI j = 1 ∧ ¬ nI j = 2 → 3 ≤ nI j ∧ ¬ 8 < nI j ∧ nI j + 10 = 13 + nI j - 3) := by decide +kernel
    exact this j hj
  refine ⟨fun u0 => ⟨fun u1 => ⟨fun u2 => ⟨fun u3 => ⟨xi, ?_⟩, fun u3 => ⟨?_, rfl⟩⟩, fun u2 => ⟨?_, rfl⟩⟩, fun u1 => ⟨?_, rfl⟩⟩, fun u0 => ⟨?_, rfl⟩⟩
  · obtain ⟨a, b, c, c'⟩ := k3 u3
    rw [if_pos a, if_pos b]
    refine ⟨fun w => ⟨?_, rfl⟩, fun w => ⟨?_, rfl⟩⟩
    · rw [if_neg w, c]
    · rw [if_pos w, ← c']
  · obtain ⟨a, b, c⟩ := k4 u3 ⟨u0, u1, u2⟩
    rw [if_pos a, if_neg b, c]
  · rw [u2]; rfl
  · rw [u1]; rfl
  · rw [u0]; rfl
theorem nTwo_r : ∀ j, j < 14 → ∀ b : Bool, (0 ≤ nTwo (nI j) (if b = true then 1 else 0) ∧ nTwo (nI j) (if b = true then 1 else 0) ≤ 24) ∧ ((nTwo (nI j) (if b = true then 1 else 0) = 3 ∨ nTwo (nI j) (if b = true then 1 else 0) = 4 ∨ nTwo (nI j) (if b = true then 1 else 0) = 8 ∨ nTwo (nI j) (if b = true then 1 else 0) = 9) → j = 12 ∨ j = 13) := by decide +kernel
theorem nTwo_b (o t : Int32) : nTwo o t = nTwo o (if decide (t = 1) = true then 1 else 0) := by
  unfold nTwo
  by_cases e : t = 1
  · subst e; rfl
  · rw [if_neg e, decide_eq_false e, if_neg (show ¬ (if (false : Bool) = true then (1 : Int32) else 0) = 1 by decide)]
theorem nTwo_q {j : Nat} (hj : j < 14) (t : Int32) : (0 ≤ nTwo (nI j) t ∧ nTwo (nI j) t ≤ 24) ∧ ((nTwo (nI j) t = 3 ∨ nTwo (nI j) t = 4 ∨ nTwo (nI j) t = 8 ∨ nTwo (nI j) t = 9) → j = 12 ∨ j = 13) := by
  rw [nTwo_b]
  exact nTwo_r j hj _
theorem y_jq {G : xG} {d d' j : Nat} {as : List Value} {m m0 : yM} {J : JV} {D : Nat → Prop} {n : Nat} {R : RS ⊕ Int32} (h : yC G d j as m (JQ J D m0 n R)) (hd : d ≤ d') : yC G d' j as m (fun r m1 => r = none ∧ JQ J D m0 n R none m1) := yC.mono hd (fun _ m1 q => ⟨q.1, rfl, q.2⟩) h
/-- two operands -/
theorem c354_35 (xs : List Int32) (d : Nat) {J : JV} {D : Nat → Prop} {σ : RS} {m : yM} (h : RJ J D σ m) {n : Nat} (hn : n < J.2.2.1.length) (hK : kids J.2.2.1 n = [n + 1, n + 1 + szF J.2.2.1 (n + 1)]) (k1 : exK (kK J.2.2.1 (n + 1))) (k2 : exK (kK J.2.2.1 (n + 1 + szF J.2.2.1 (n + 1)))) (d1 : D (n + 1)) (d2 : D (n + 1 + szF J.2.2.1 (n + 1))) (kn : kK J.2.2.1 n = 35) (ks : σ.2.2.1 n = 35) (hvt : vtF J.2.2.1 n = 0) (hv : σ.2.2.2.1 n = vF J.2.2.1 n) {j : Nat} (hj : j < 14) (ej : σ.2.2.2.1 n = nI j) (ty1 : ty3 (σ.2.2.2.2 (n + 1))) (ty2 : ty3 (σ.2.2.2.2 (n + 1 + szF J.2.2.1 (n + 1)))) (hs : 0 < szF J.2.2.1 (n + 1)) : yC (xg xs) (d + 4) 354 [.ref 58, .int (nI (J.2.2.2 n)), .int 35] m (JQ J (fun i => D i ∨ i = n) m n (lkTwo J.2.2.1 σ n)) := by
  have hT := h.1
  have e64 := (hT.2.1 n hn).2.2.2.1 hvt
  rw [← hv, ej] at e64
  have n1 := (h.n d1).1
  have n2 := (h.n d2).1
  have e0 := hT.k0 hn (c := n + 1) (by rw [hK]; rfl)
  have c1 := hT.c n1
  have x1 := hT.x n1
  have c2 := hT.c n2
  have x2 := hT.x n2
  have ei := hT.c hn
  have xi := hT.x hn
  obtain ⟨t84, t87, t88⟩ := (h.n d1).2.1 k1
  obtain ⟨u84, u87, u88⟩ := (h.n d2).2.1 k2
  have nei : ¬ J.2.2.2 (n + 1) = J.2.2.2 n := fun z => by have := hT.2.2.1 _ _ n1 hn z; omega
  have nei2 : ¬ J.2.2.2 (n + 1 + szF J.2.2.1 (n + 1)) = J.2.2.2 n := fun z => by have := hT.2.2.1 _ _ n2 hn z; omega
  have a1 := (hT.kc hn (j := 0) (c := n + 1) (by rw [hK]; rfl)).2.2
  rw [hK] at a1
  have a1 : m.1 68 (J.2.2.2 (n + 1)) = nI (J.2.2.2 (n + 1 + szF J.2.2.1 (n + 1))) := a1
  unfold lkTwo
  rw [hK, ej]
  generalize n + 1 + szF J.2.2.1 (n + 1) = y at *
  generalize hx : n + 1 = x at *
  generalize hA : σ.2.2.2.2 x = tx at *
  generalize hB : σ.2.2.2.2 y = ty at *
  -- the types
  have cm : (cmT tx ty = -1 ↔ ¬ ((tx = 0 ∧ ty = 0) ∨ (0 < tx ∧ 0 < ty))) ∧ (cmT tx ty = 0 ↔ (tx = 0 ∧ ty = 0)) ∧ (0 < tx ∧ 0 < ty → cmT tx ty = wdr tx ty) := by
    rcases ty1 with rfl | rfl | rfl <;> rcases ty2 with rfl | rfl | rfl <;> decide
  generalize cmT tx ty = c at cm ⊢
  have fl : ∀ T : Int32, (([x, y] : List Nat).all (cnB (setT σ n T)) = true) ↔ (cnP σ x ∧ cnP σ y) := by
    intro T
    rw [List.all_cons, List.all_cons, List.all_nil, Bool.and_true, Bool.and_eq_true]
    exact ⟨fun z => ⟨decide_eq_true_iff.mp z.1, decide_eq_true_iff.mp z.2⟩, fun z => ⟨decide_eq_true z.1, decide_eq_true z.2⟩⟩
  have bd : (c = -1 ∨ (¬ nI j ≤ 4 ∧ c = 0)) ↔ (if 5 ≤ nI j then ¬ (0 < tx ∧ 0 < ty) else ¬ ((tx = 0 ∧ ty = 0) ∨ (0 < tx ∧ 0 < ty))) := by
    have l4 : ¬ nI j ≤ 4 ↔ 5 ≤ nI j := by
      have : ∀ j, j < 14 → decide (¬ nI j ≤ 4) = decide (5 ≤ nI j) := by decide +kernel
      exact decide_eq_decide.mp (this j hj)
    rw [l4, cm.1, cm.2.1]
    by_cases q : 5 ≤ nI j
    · rw [if_pos q]
      constructor
      · rintro (z | z)
        · exact fun w => z (Or.inr w)
        · exact fun w => absurd w.1 (by rw [z.2.1]; decide)
      · intro z
        by_cases w : tx = 0 ∧ ty = 0
        · exact Or.inr ⟨q, w⟩
        · exact Or.inl (fun v => v.elim w z)
    · rw [if_neg q]
      exact ⟨fun z => z.elim id (fun z => absurd z.1 q), Or.inl⟩
  generalize hP : (decide (c = -1 ∨ (¬ nI j ≤ 4 ∧ c = 0))) = P
  -- the end
  have fin : ∀ (T b z : Int32) (R : RS ⊕ Int32), (b = 0 ∨ b = 1) → (¬ (c = -1 ∨ (¬ nI j ≤ 4 ∧ c = 0)) → ∃ σ', R = .inl σ' ∧ RJ J (fun i => D i ∨ i = n) σ' (fxM J m n T b z)) → yP (xg xs) (d + 3) 364 262 [] [.int z, .int b, .int (nI (J.2.2.2 n)), .ref 58] (y_si (flb J m 27 n P) 84 (J.2.2.2 n) T) (JQ J (fun i => D i ∨ i = n) m n (if c = -1 ∨ (¬ nI j ≤ 4 ∧ c = 0) then .inr 27 else R)) := by
    intro T b z R hb hR
    have jk : JK m (flb J m 27 n P) := (JK.re m).fb J 27 n P
    refine w364_262 xs (d + 2) _ _ _ _ _ (y_cv (c355 xs (d + 1) (hT.k (jk.si (by omega))) hn hb _) (by omega) ?_)
    by_cases q : c = -1 ∨ (¬ nI j ≤ 4 ∧ c = 0)
    · rw [if_pos q, ← hP, decide_eq_true q, flb_t]
      have fe := FE.mk J m (show (0 : Int32) < 27 by decide) n
      refine ⟨rfl, ((JK.re m).fl J 27 n).fx J n T b z, ?_, fe.2.1, ?_⟩
      · exact (fxM_at J (flM2 J m 27 n) n T b z 58 3).trans (by rw [if_neg (by omega), if_neg (by omega), if_neg (by omega)]; exact fe.1)
      · exact (fxM_at J (flM2 J m 27 n) n T b z 58 4).trans (by rw [if_neg (by omega), if_neg (by omega), if_neg (by omega)]; exact fe.2.2)
    · obtain ⟨σ', rfl, r⟩ := hR q
      rw [if_neg q, ← hP, decide_eq_false q, flb_f]
      exact ⟨rfl, (JK.re m).fx J n T b z, r⟩
  -- behind the type
  have s159 : ∀ T : Int32, (¬ (c = -1 ∨ (¬ nI j ≤ 4 ∧ c = 0)) → T = tyTwo (nI j) c) → yP (xg xs) (d + 3) 364 159 [(0, .ref 58), (1, .int (nI (J.2.2.2 n))), (2, .int (nI (J.2.2.2 x))), (3, .int (nI (J.2.2.2 y))), (4, .int (nI j))] [.int T, .int (nI (J.2.2.2 n)), .ref 84] (flb J m 27 n P) (JQ J (fun i => D i ∨ i = n) m n (if c = -1 ∨ (¬ nI j ≤ 4 ∧ c = 0) then .inr 27 else if ([x, y] : List Nat).all (cnB (setT σ n (tyTwo (nI j) c))) = true ∧ ¬ (¬ nI j < 12 ∧ σ.2.2.2.1 y = 0) then .inl (bcN (setT σ n (tyTwo (nI j) c)) n (two_ (nTwo (nI j) (tyTwo (nI j) c)) (σ.2.2.2.1 x) (σ.2.2.2.1 y))) else .inl (setT σ n (tyTwo (nI j) c)))) := by
    intro T hTy
    have fn := fin T
    generalize hm1 : y_si (flb J m 27 n P) 84 (J.2.2.2 n) T = m1 at fn
    have g1 : ∀ a i, ¬ a = 58 → ¬ (a = 84 ∧ i = J.2.2.2 n) → m1.1 a i = m.1 a i := fun a i z1 z2 => by rw [← hm1, y_si_at, if_neg z2, flb_at _ _ _ _ _ _ _ z1]
    have hT1 : JT J m1 := by rw [← hm1]; exact hT.k (((JK.re m).fb J 27 n P).si (by omega))
    have a84 : m1.1 84 (J.2.2.2 n) = T := by rw [← hm1, y_si_same]
    have a64 : m1.1 64 (J.2.2.2 n) = nI j := by rw [g1 64 _ (by omega) (by omega)]; exact e64
    have x87 : m1.1 87 (J.2.2.2 x) = if cnP σ x then 1 else 0 := by rw [g1 87 _ (by omega) (by omega)]; exact t87
    have y87 : m1.1 87 (J.2.2.2 y) = if cnP σ y then 1 else 0 := by rw [g1 87 _ (by omega) (by omega)]; exact u87
    have x88 : cnP σ x → m1.1 88 (J.2.2.2 x) = σ.2.2.2.1 x := fun z => by rw [g1 88 _ (by omega) (by omega)]; exact t88 z
    have y88 : cnP σ y → m1.1 88 (J.2.2.2 y) = σ.2.2.2.1 y := fun z => by rw [g1 88 _ (by omega) (by omega)]; exact u88 z
    have no : ¬ (cnP σ x ∧ cnP σ y ∧ ¬ (¬ nI j < 12 ∧ σ.2.2.2.1 y = 0)) → yP (xg xs) (d + 3) 364 226 [(0, .ref 58), (1, .int (nI (J.2.2.2 n))), (2, .int (nI (J.2.2.2 x))), (3, .int (nI (J.2.2.2 y)))] [] m1 (JQ J (fun i => D i ∨ i = n) m n (if c = -1 ∨ (¬ nI j ≤ 4 ∧ c = 0) then .inr 27 else if ([x, y] : List Nat).all (cnB (setT σ n (tyTwo (nI j) c))) = true ∧ ¬ (¬ nI j < 12 ∧ σ.2.2.2.1 y = 0) then .inl (bcN (setT σ n (tyTwo (nI j) c)) n (two_ (nTwo (nI j) (tyTwo (nI j) c)) (σ.2.2.2.1 x) (σ.2.2.2.1 y))) else .inl (setT σ n (tyTwo (nI j) c)))) := by
      intro q
      refine w364_226 xs (d + 2) _ _ _ m1 _ (w364_227 xs (d + 2) _ _ _ _ m1 _ ⟨fun _ => ?_, fun z => absurd rfl z⟩)
      refine fn 0 _ _ (Or.inl rfl) (fun w => ⟨setT σ n (tyTwo (nI j) c), ?_, ?_⟩)
      · rw [if_neg (fun z => q ⟨((fl _).mp z.1).1, ((fl _).mp z.1).2, z.2⟩)]
      · rw [hTy w]
        exact RJ.e0 h hn (by omega) (by rw [ks, kn]; rfl) _ _
    have s197 : ∀ u : Int32, (cnP σ y → (u = 0 ↔ ¬ (¬ nI j < 12 ∧ σ.2.2.2.1 y = 0))) → yP (xg xs) (d + 3) 364 197 [(0, .ref 58), (1, .int (nI (J.2.2.2 n))), (2, .int (nI (J.2.2.2 x))), (3, .int (nI (J.2.2.2 y)))] [.int u] m1 (JQ J (fun i => D i ∨ i = n) m n (if c = -1 ∨ (¬ nI j ≤ 4 ∧ c = 0) then .inr 27 else if ([x, y] : List Nat).all (cnB (setT σ n (tyTwo (nI j) c))) = true ∧ ¬ (¬ nI j < 12 ∧ σ.2.2.2.1 y = 0) then .inl (bcN (setT σ n (tyTwo (nI j) c)) n (two_ (nTwo (nI j) (tyTwo (nI j) c)) (σ.2.2.2.1 x) (σ.2.2.2.1 y))) else .inl (setT σ n (tyTwo (nI j) c)))) := by
      intro u hu
      refine w364_197 xs (d + 2) _ _ _ _ m1 _ ⟨x1, ?_⟩
      rw [c1, c2, x87, y87]
      refine ⟨fun z => no (fun w => absurd z (by rw [if_pos w.1]; decide)), fun z => ⟨x2, fun z2 => no (fun w => absurd z2 (by rw [if_pos w.2.1]; decide)), fun z2 => ?_⟩⟩
      have p1 : cnP σ x := by
        by_cases w : cnP σ x
        · exact w
        · rw [if_neg w] at z; exact absurd rfl z
      have p2 : cnP σ y := by
        by_cases w : cnP σ y
        · exact w
        · rw [if_neg w] at z2; exact absurd rfl z2
      refine ⟨fun z3 => no (fun w => z3 ((hu p2).mpr w.2.2)), fun z3 => ?_⟩
      have p3 := (hu p2).mp z3
      refine w364_227 xs (d + 2) _ _ _ _ m1 _ ⟨fun w => absurd w (by decide), fun _ => ?_⟩
      have q5 := c365 xs (d + 1) hT1 hn hj a64
      rw [a84] at q5
      refine y_ci q5 (by omega) ⟨x1, x2, ?_⟩
      rw [c1, c2, x88 p1, y88 p2]
      obtain ⟨r1, r2⟩ := nTwo_q hj T
      refine y_ci (c363 xs (d + 1) m1 _ _ _ r1 (fun w e => p3 ⟨?_, e⟩)) (by omega) ?_
      · rcases r2 w with rfl | rfl <;> decide
      · refine fn 1 _ _ (Or.inr rfl) (fun w => ⟨bcN (setT σ n (tyTwo (nI j) c)) n (two_ (nTwo (nI j) (tyTwo (nI j) c)) (σ.2.2.2.1 x) (σ.2.2.2.1 y)), ?_, ?_⟩)
        · rw [if_pos ⟨(fl _).mpr ⟨p1, p2⟩, p3⟩]
        · rw [hTy w]
          exact RJ.e1 h hn (by omega) (fun _ _ _ => rfl) rfl _ _
    have s174 : ¬ nI j < 12 → yP (xg xs) (d + 3) 364 174 [(0, .ref 58), (1, .int (nI (J.2.2.2 n))), (2, .int (nI (J.2.2.2 x))), (3, .int (nI (J.2.2.2 y)))] [] m1 (JQ J (fun i => D i ∨ i = n) m n (if c = -1 ∨ (¬ nI j ≤ 4 ∧ c = 0) then .inr 27 else if ([x, y] : List Nat).all (cnB (setT σ n (tyTwo (nI j) c))) = true ∧ ¬ (¬ nI j < 12 ∧ σ.2.2.2.1 y = 0) then .inl (bcN (setT σ n (tyTwo (nI j) c)) n (two_ (nTwo (nI j) (tyTwo (nI j) c)) (σ.2.2.2.1 x) (σ.2.2.2.1 y))) else .inl (setT σ n (tyTwo (nI j) c)))) := by
      intro q
      refine w364_174 xs (d + 2) _ _ _ m1 _ ⟨x2, ?_⟩
      rw [c2, y87]
      refine ⟨fun z => w364_196 xs (d + 2) _ _ _ m1 _ (s197 0 (fun w => absurd z (by rw [if_pos w]; decide))), fun z => ⟨x2, ?_⟩⟩
      have p2 : cnP σ y := by
        by_cases w : cnP σ y
        · exact w
        · rw [if_neg w] at z; exact absurd rfl z
      rw [y88 p2]
      exact ⟨fun w => w364_196 xs (d + 2) _ _ _ m1 _ (s197 0 (fun _ => ⟨fun _ v => w v.2, fun _ => rfl⟩)), fun w => s197 1 (fun _ => ⟨fun v => absurd v (by decide), fun v => absurd ⟨q, w⟩ v⟩)⟩
    have l12 : (nI j = 12 ∨ nI j = 13) ↔ ¬ nI j < 12 := by
      have : ∀ j, j < 14 → decide (nI j = 12 ∨ nI j = 13) = decide (¬ nI j < 12) := by decide +kernel
      exact decide_eq_decide.mp (this j hj)
    refine w364_159 xs (d + 2) _ _ _ _ _ _ _ _ ⟨xi, ?_⟩
    rw [ei, hm1]
    refine ⟨fun z => s174 (l12.mp (Or.inl z)), fun z => ⟨fun z2 => w364_196 xs (d + 2) _ _ _ m1 _ (s197 0 (fun _ => ⟨fun _ v => (l12.mpr v.1).elim z z2, fun _ => rfl⟩)), fun z2 => s174 (l12.mp (Or.inr z2))⟩⟩
  -- the rule
  have s109 : ∀ (u l5 : Int32), u = (if P = true then 1 else 0) → (l5 = 0 ↔ ¬ (tx = 0 ∧ ty = 0)) → yP (xg xs) (d + 3) 364 109 [(0, .ref 58), (1, .int (nI (J.2.2.2 n))), (2, .int (nI (J.2.2.2 x))), (3, .int (nI (J.2.2.2 y))), (4, .int (nI j)), (5, .int l5)] [.int u, .int (27 : Int32), .ref 58] m (JQ J (fun i => D i ∨ i = n) m n (if c = -1 ∨ (¬ nI j ≤ 4 ∧ c = 0) then .inr 27 else if ([x, y] : List Nat).all (cnB (setT σ n (tyTwo (nI j) c))) = true ∧ ¬ (¬ nI j < 12 ∧ σ.2.2.2.1 y = 0) then .inl (bcN (setT σ n (tyTwo (nI j) c)) n (two_ (nTwo (nI j) (tyTwo (nI j) c)) (σ.2.2.2.1 x) (σ.2.2.2.1 y))) else .inl (setT σ n (tyTwo (nI j) c)))) := by
    intro u l5 hu h5
    refine w364_109 xs (d + 2) _ _ _ _ _ _ _ m _ (rlb (by omega) (by decide) hT hn h.2.1.f0 false P hu ?_)
    rw [Bool.false_or]
    have s135 : ¬ (¬ nI j < 3 ∧ ¬ 8 < nI j) → yP (xg xs) (d + 3) 364 135 [(0, .ref 58), (1, .int (nI (J.2.2.2 n))), (2, .int (nI (J.2.2.2 x))), (3, .int (nI (J.2.2.2 y))), (4, .int (nI j)), (5, .int l5)] [.int (nI (J.2.2.2 n)), .ref 84] (flb J m 27 n P) (JQ J (fun i => D i ∨ i = n) m n (if c = -1 ∨ (¬ nI j ≤ 4 ∧ c = 0) then .inr 27 else if ([x, y] : List Nat).all (cnB (setT σ n (tyTwo (nI j) c))) = true ∧ ¬ (¬ nI j < 12 ∧ σ.2.2.2.1 y = 0) then .inl (bcN (setT σ n (tyTwo (nI j) c)) n (two_ (nTwo (nI j) (tyTwo (nI j) c)) (σ.2.2.2.1 x) (σ.2.2.2.1 y))) else .inl (setT σ n (tyTwo (nI j) c)))) := by
      intro q
      have eT : tyTwo (nI j) c = c := by unfold tyTwo; rw [if_neg q]
      refine w364_135 xs (d + 2) _ _ _ _ _ _ _ _ ⟨fun z => ⟨x1, x2, ?_⟩, fun z => s159 0 (fun w => ?_)⟩
      · rw [c1, c2, flb_at _ _ _ _ _ _ _ (by decide), flb_at _ _ _ _ _ _ _ (by decide), t84, u84]
        refine y_ci (c359 xs (d + 1) _ _ _) (by omega) (s159 _ (fun w => ?_))
        rw [eT]
        have nb := h5.mp z
        have : 0 < tx ∧ 0 < ty := by
          by_cases v : 0 < tx ∧ 0 < ty
          · exact v
          · exact absurd (Or.inl (cm.1.mpr (fun y => y.elim nb v))) w
        exact (cm.2.2 this).symm
      · rw [eT]
        by_cases v : tx = 0 ∧ ty = 0
        · exact (cm.2.1.mpr v).symm
        · exact absurd (h5.mpr v) z
    have r1 : nI j ≤ 2 → nI j < 3 := by
      have : ∀ j, j < 14 → (nI j ≤ 2 → nI j < 3) := by decide +kernel
      exact this j hj
    have r2 : 9 ≤ nI j → 8 < nI j := by
      have : ∀ j, j < 14 → (9 ≤ nI j → 8 < nI j) := by decide +kernel
      exact this j hj
    have r3 : ¬ nI j ≤ 2 → ¬ 9 ≤ nI j → ¬ nI j < 3 ∧ ¬ 8 < nI j := by
      have : ∀ j, j < 14 → (¬ nI j ≤ 2 → ¬ 9 ≤ nI j → ¬ nI j < 3 ∧ ¬ 8 < nI j) := by decide +kernel
      exact this j hj
    refine ⟨fun z => s135 (fun w => w.1 (r1 z)), fun z => ⟨fun z2 => s135 (fun w => w.2 (r2 z2)), fun z2 => s159 0 (fun _ => ?_)⟩⟩
    unfold tyTwo
    rw [if_pos (r3 z z2)]
  have s70 : ∀ (l5 s : Int32), (l5 = 0 ↔ ¬ (tx = 0 ∧ ty = 0)) → (s = 0 ↔ ¬ (0 < tx ∧ 0 < ty)) → yP (xg xs) (d + 3) 364 70 [(0, .ref 58), (1, .int (nI (J.2.2.2 n))), (2, .int (nI (J.2.2.2 x))), (3, .int (nI (J.2.2.2 y))), (4, .int (nI j)), (5, .int l5)] [.int s] m (JQ J (fun i => D i ∨ i = n) m n (if c = -1 ∨ (¬ nI j ≤ 4 ∧ c = 0) then .inr 27 else if ([x, y] : List Nat).all (cnB (setT σ n (tyTwo (nI j) c))) = true ∧ ¬ (¬ nI j < 12 ∧ σ.2.2.2.1 y = 0) then .inl (bcN (setT σ n (tyTwo (nI j) c)) n (two_ (nTwo (nI j) (tyTwo (nI j) c)) (σ.2.2.2.1 x) (σ.2.2.2.1 y))) else .inl (setT σ n (tyTwo (nI j) c)))) := by
    intro l5 s h5 hs
    have ok : ¬ (c = -1 ∨ (¬ nI j ≤ 4 ∧ c = 0)) → P = false := fun z => by rw [← hP, decide_eq_false z]
    have no : (c = -1 ∨ (¬ nI j ≤ 4 ∧ c = 0)) → P = true := fun z => by rw [← hP, decide_eq_true z]
    refine w364_70 xs (d + 2) _ _ _ _ _ _ m _ ⟨fun z => ⟨fun w => s109 0 l5 (by rw [ok]; rfl; rw [bd, if_pos z]; exact fun v => w (hs.mpr v)) h5, fun w => s109 1 l5 (by rw [no]; rfl; rw [bd, if_pos z]; exact hs.mp w) h5⟩, fun z => ⟨fun w => w364_95 xs (d + 2) _ _ _ _ _ _ m _ (s109 0 l5 (by rw [ok]; rfl; rw [bd, if_neg z]; exact fun v => w (h5.mpr (fun q => v (Or.inl q)))) h5), fun w => ⟨fun w2 => w364_95 xs (d + 2) _ _ _ _ _ _ m _ (s109 0 l5 (by rw [ok]; rfl; rw [bd, if_neg z]; exact fun v => w2 (hs.mpr (fun q => v (Or.inr q)))) h5), fun w2 => s109 1 l5 (by rw [no]; rfl; rw [bd, if_neg z]; exact fun v => v.elim (h5.mp w) (hs.mp w2)) h5⟩⟩⟩
  have s45 : ∀ l5 : Int32, (l5 = 0 ↔ ¬ (tx = 0 ∧ ty = 0)) → yP (xg xs) (d + 3) 364 45 [(0, .ref 58), (1, .int (nI (J.2.2.2 n))), (2, .int (nI (J.2.2.2 x))), (3, .int (nI (J.2.2.2 y))), (4, .int (nI j))] [.int l5] m (JQ J (fun i => D i ∨ i = n) m n (if c = -1 ∨ (¬ nI j ≤ 4 ∧ c = 0) then .inr 27 else if ([x, y] : List Nat).all (cnB (setT σ n (tyTwo (nI j) c))) = true ∧ ¬ (¬ nI j < 12 ∧ σ.2.2.2.1 y = 0) then .inl (bcN (setT σ n (tyTwo (nI j) c)) n (two_ (nTwo (nI j) (tyTwo (nI j) c)) (σ.2.2.2.1 x) (σ.2.2.2.1 y))) else .inl (setT σ n (tyTwo (nI j) c)))) := by
    intro l5 h5
    refine w364_45 xs (d + 2) _ _ _ _ _ m _ ⟨x1, ?_⟩
    rw [c1, c2, t84, u84]
    refine ⟨fun z => w364_69 xs (d + 2) _ _ _ _ _ m _ (s70 l5 0 h5 ⟨fun _ w => Int32.not_lt.mpr z w.1, fun _ => rfl⟩), fun z => ⟨x2, fun z2 => w364_69 xs (d + 2) _ _ _ _ _ m _ (s70 l5 0 h5 ⟨fun _ w => Int32.not_lt.mpr z2 w.2, fun _ => rfl⟩), fun z2 => s70 l5 1 h5 ⟨fun w => absurd w (by decide), fun w => absurd ⟨Int32.not_le.mp z, Int32.not_le.mp z2⟩ w⟩⟩⟩
  refine w354_0 xs (d + 3) _ _ m _ ⟨fun w => absurd w (by decide), fun w => absurd w (by decide), fun w => absurd w (by decide), fun w => absurd w (by decide), fun w => absurd w (by decide), fun _ => ?_, fun _ _ _ _ _ w => absurd rfl w⟩
  refine y_jq (w364_0 xs (d + 2) _ m _ ⟨xi, ?_⟩) (by omega)
  rw [ei, e0, c1, a1, e64, c2, t84, u84]
  refine ⟨x1, xi, x1, fun z => w364_44 xs (d + 2) _ _ _ _ m _ (s45 0 ⟨fun _ w => z w.1, fun _ => rfl⟩), fun z => ⟨x2, fun z2 => w364_44 xs (d + 2) _ _ _ _ m _ (s45 0 ⟨fun _ w => z2 w.2, fun _ => rfl⟩), fun z2 => s45 1 ⟨fun w => absurd w (by decide), fun w => absurd ⟨z, z2⟩ w⟩⟩⟩
