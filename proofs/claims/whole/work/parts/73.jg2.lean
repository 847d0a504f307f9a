/-! THE REFERENCE'S RULES: an instance's output -/
theorem JQ.tr {J : JV} {D : Nat → Prop} {m m1 : yM} {n : Nat} {R : RS ⊕ Int32} {r : Option Value} {m' : yM} (jk : JK m m1) (h : JQ J D m1 n R r m') : JQ J D m n R r m' := ⟨h.1, jk.tr h.2.1, h.2.2⟩
/-- what is kept of a node that was not looked at -/
theorem RJ.s8 {J : JV} {D : Nat → Prop} {σ : RS} {m : yM} (h : RJ J D σ m) {n : Nat} (hn : n < J.2.2.1.length) (hnD : ¬ D n) {a : Nat} (ha : 83 < a ∧ a < 89) (v : Int32) : RJ J D σ (y_si m a (J.2.2.2 n) v) := by
  obtain ⟨hT, hR, hD⟩ := h
  refine ⟨hT.kp ((JP.re (J.2.2.2 n) m).si (by omega)), hR.fr (fun b i h1 h2 => by rw [y_si_at, if_neg (by omega)]) (fun i hi => by rw [y_si_at, if_neg (by omega)]), fun i hi => ?_⟩
  obtain ⟨d1, d2⟩ := hD i hi
  refine ⟨d1, d2.fr rfl rfl rfl (fun b h1 h2 => ?_)⟩
  rw [y_si_at, if_neg]
  intro z
  have := hT.2.2.1 i n d1 hn z.2
  subst this
  exact hnD hi
theorem JP.fb {p : Nat} {m m' : yM} (J : JV) (h : JP p m m') (c : Int32) (n : Nat) (b : Bool) : JP p m (flb J m' c n b) := by
  cases b
  · exact h
  · exact h.fl J c n
theorem JQp.tr {J : JV} {D : Nat → Prop} {m m1 : yM} {n : Nat} {R : RS ⊕ Int32} {r : Option Value} {m' : yM} (jk : JP (J.2.2.2 n) m m1) (h : JQp J D m1 n R r m') : JQp J D m n R r m' := ⟨h.1, jk.tr h.2.1, h.2.2⟩
theorem y_jqp {G : xG} {d d' j : Nat} {as : List Value} {m m0 : yM} {J : JV} {D : Nat → Prop} {n : Nat} {R : RS ⊕ Int32} (h : yC G d j as m (JQp J D m0 n R)) (hd : d ≤ d') : yC G d' j as m (fun r m1 => r = none ∧ JQp J D m0 n R none m1) := yC.mono hd (fun _ m1 q => ⟨q.1, rfl, q.2⟩) h
theorem y_jqw {G : xG} {d d' j : Nat} {as : List Value} {m m0 : yM} {J : JV} {D : Nat → Prop} {n : Nat} {R : RS ⊕ Int32} (h : yC G d j as m (JQw J D m0 n R)) (hd : d ≤ d') : yC G d' j as m (fun r m1 => r = none ∧ JQw J D m0 n R none m1) := yC.mono hd (fun _ m1 q => ⟨q.1, rfl, q.2⟩) h
theorem c356 (xs : List Int32) (d : Nat) {J : JV} (hO : JO J) {D : Nat → Prop} {σ : RS} {m : yM} (h : RJ J D σ m) (hP : PV σ) (hD : allD σ) {n : Nat} (hn : n < J.2.2.1.length) (n1 : n + 1 < J.2.2.1.length) (hK : kids J.2.2.1 n = [n + 1]) (kn : kK J.2.2.1 n = 33) (ks : σ.2.2.1 n = 33) (hvt : ¬ vtF J.2.2.1 (n + 1) = 0) (hv : σ.2.2.2.1 (n + 1) = vF J.2.2.1 (n + 1)) {v : Nat} (vo : vOk σ v) (hf : frm σ v = 10) : yC (xg xs) (d + 6) 356 [.ref 58, .int (nI (J.2.2.2 n)), .int (nI v)] m (JQp J (fun i => D i ∨ i = n) m n (if prt σ (σ.2.2.2.1 (vD σ v).2.1) (σ.2.2.2.1 (n + 1)) 2 = -1 then .inr 23 else .inl (setT (setV σ n ((vD σ v).2.2.2 + (prt σ (σ.2.2.2.1 (vD σ v).2.1) (σ.2.2.2.1 (n + 1)) 2 >>> ((2 : Int32) &&& 31)))) n (prt σ (σ.2.2.2.1 (vD σ v).2.1) (σ.2.2.2.1 (n + 1)) 2 &&& 3)))) := by
  have hT := h.1
  have hR := h.2.1
  have hB := hR.nB.2
  have n2 := hR.nV.2
  obtain ⟨vl, hvd⟩ := hR.d vo
  have e80 := hvd.2.2.1
  have ei := hT.c hn
  have xi := hT.x hn
  have c1 := hT.c n1
  have x1 := hT.x n1
  have e0 := hT.k0 hn (c := n + 1) (by rw [hK]; rfl)
  have hx := (hT.2.1 (n + 1) n1).2.2.2.2.1 hvt
  have xv : x_in (nI v) 4700 = true := x_in_nI (by omega) (by decide)
  have cv : (nI v).toNatClampNeg = v := nI_clamp (by omega)
  rw [hv]
  generalize vF J.2.2.1 (n + 1) = x at hx
  generalize hq : prt σ (σ.2.2.2.1 (vD σ v).2.1) x 2 = q
  -- the end
  have s154 : ∀ (s a : Int32), PQ q s ((vD σ v).2.2.2) a → yP (xg xs) (d + 6) 356 154 [(0, .ref 58), (1, .int (nI (J.2.2.2 n))), (4, .int s)] [] (y_si m 86 (J.2.2.2 n) a) (JQp J (fun i => D i ∨ i = n) m n (if q = -1 then .inr 23 else .inl (setT (setV σ n ((vD σ v).2.2.2 + (q >>> ((2 : Int32) &&& 31)))) n (q &&& 3)))) := by
    intro s a hq
    obtain ⟨g1, g2⟩ := hq.g
    have jk : JP (J.2.2.2 n) m (y_si m 86 (J.2.2.2 n) a) := (JP.re (J.2.2.2 n) m).si (by omega)
    have hT1 := hT.kp jk
    have f1 : (y_si m 86 (J.2.2.2 n) a).1 58 3 = 0 := by rw [y_si_at, if_neg (by omega)]; exact hR.f0
    refine w356_154 xs (d + 5) _ _ _ _ ⟨fun z => ?_, fun z => ?_⟩
    · have nq : ¬ q = -1 := fun y => z (g1.mp y)
      obtain ⟨g3, g4, g5⟩ := g2 nq
      rw [if_neg nq, ← g4, ← g5]
      refine w356_168 xs (d + 5) _ _ _ _ _ _ (rl0 ⟨xi, xi, ?_⟩)
      rw [ei]
      have jk3 : JP (J.2.2.2 n) m (y_si (y_si (y_si m 86 (J.2.2.2 n) a) 84 (J.2.2.2 n) s) 87 (J.2.2.2 n) (vp_nar .boolean 0)) := (jk.si (by omega)).si (by omega)
      refine ⟨rfl, jk3, RJ.exp h hn (by omega) jk3 (fun b i h1 h2 => ?_) (fun b i h1 h2 h3 => ?_) (fun i hi => ?_) ⟨_, _, _, setVT_u σ n _ _, fun z => by omega⟩ ?_⟩
      · rw [y_si_at, if_neg (by omega), y_si_at, if_neg (by omega), y_si_at, if_neg (by omega)]
      · rw [y_si_at, if_neg (fun z => h3 z.2), y_si_at, if_neg (fun z => h3 z.2), y_si_at, if_neg (fun z => h3 z.2)]
      · rw [y_si_at, if_neg (by omega), y_si_at, if_neg (by omega), y_si_at, if_neg (by omega)]
      · have nc : ¬ cnP (setT (setV σ n a) n s) n := by
          unfold cnP setT setV
          dsimp only
          rw [ks]
          decide
        refine ⟨fun _ => ⟨?_, ?_, fun z => absurd z nc⟩, fun z => by omega, fun _ => ?_, fun z => by omega⟩
        · rw [y_si_at, if_neg (by omega), y_si_same]; exact (upI_n _ _ _).symm
        · rw [y_si_same, if_neg nc]; rfl
        · rw [y_si_at, if_neg (by omega), y_si_at, if_neg (by omega), y_si_same]; exact (upI_n _ _ _).symm
    · rw [if_pos (g1.mpr z)]
      refine w356_168 xs (d + 5) _ _ _ _ _ _ (rl1 (by omega) hT1 hn f1 ⟨xi, xi, ?_⟩)
      rw [ei]
      have fe := FE.mk J (y_si m 86 (J.2.2.2 n) a) (show (0 : Int32) < 23 by decide) n
      refine ⟨rfl, ((jk.fl J 23 n).si (by omega)).si (by omega), ?_, fe.2.1, ?_⟩
      · rw [y_si_at, if_neg (by omega), y_si_at, if_neg (by omega)]; exact fe.1
      · rw [y_si_at, if_neg (by omega), y_si_at, if_neg (by omega)]; exact fe.2.2
  have s153 : ∀ (s a : Int32), PQ q s ((vD σ v).2.2.2) a → yP (xg xs) (d + 6) 356 153 [(0, .ref 58), (1, .int (nI (J.2.2.2 n))), (4, .int s)] [.int a, .int (nI (J.2.2.2 n)), .ref 86] m (JQp J (fun i => D i ∨ i = n) m n (if q = -1 then .inr 23 else .inl (setT (setV σ n ((vD σ v).2.2.2 + (q >>> ((2 : Int32) &&& 31)))) n (q &&& 3)))) := fun s a hq => w356_153 xs (d + 5) _ _ _ _ _ _ ⟨xi, by rw [ei]; exact s154 s a hq⟩
  refine w356_0 xs (d + 5) _ _ m _ ⟨xi, ?_⟩
  rw [ei, e0, c1, cv]
  refine ⟨x1, xv, ?_⟩
  rcases prt_c hvd hf hP vo hB x 2 with ⟨k, k1, k2, k3, k4⟩ | ⟨b, b1, b2, b3, b4, b5⟩
  · rw [hq] at k4
    rw [k2]
    refine ⟨fun z => ?_, fun _ => ⟨xv, ?_⟩⟩
    · have := (nI_leI (a := 100) (by omega) (by omega)).mp z
      omega
    · obtain ⟨p, hp, cp⟩ := c346r xs d hO hT hx k1 (o := 1) (sec := 2) (Or.inr ⟨rfl, rfl⟩)
      rw [← k4] at hp
      refine y_ci cp (by omega) ⟨fun z => ⟨by decide, ?_⟩, fun z => ?_⟩
      · rcases hp with ⟨y, -⟩ | ⟨c, t, hc, ht, e1, e2⟩
        · exact absurd y z
        · obtain ⟨r1, r2, r3⟩ := p10 c hc t ht
          rw [e1, r2]
          refine w356_55 xs (d + 5) _ _ _ _ m _ ⟨xv, by decide, xi, ?_⟩
          rw [r1, cv, e80, ei]
          exact s154 _ _ (Or.inr ⟨c, t, by omega, ht, e2, rfl, rfl⟩)
      · rcases hp with ⟨-, y⟩ | ⟨c, t, hc, ht, e1, e2⟩
        · refine w356_55 xs (d + 5) _ _ _ _ m _ ⟨xv, by decide, xi, ?_⟩
          rw [ei]
          exact s154 _ _ (Or.inl ⟨y, rfl⟩)
        · rw [e1] at z
          exact absurd z (p10 c hc t ht).2.2
  · rw [hq] at b5
    rw [b2]
    refine ⟨fun _ => ⟨xv, ?_⟩, fun z => absurd (show (100 : Int32) ≤ nI (b + 100) from nI_le (a := 100) (by omega) (by omega)) z⟩
    rw [show nI (b + 100) - 100 = nI b from nI_sub (b := 100) (by omega)]
    refine y_ci (c338 xs (d + 4) hO.1 hR b1 hx) (by omega) ?_
    rcases pt_r hR hP hD b1 (x := x) (w := 2) (Or.inr rfl) with ⟨q1, q2⟩ | ⟨u, u1, u2, u3, u4, u5, u6, u7, u8⟩
    · rw [q1]
      refine ⟨fun _ => w356_121 xs (d + 5) _ _ _ m _ (w356_122 xs (d + 5) _ _ _ _ m _ ⟨fun z => absurd rfl z, fun _ => s153 _ _ (Or.inl ⟨b5.trans q2, rfl⟩)⟩), fun z => absurd rfl z⟩
    · rw [u6]
      have xu : x_in (nI u) 4700 = true := x_in_nI (by omega) (by decide)
      have cu : (nI u).toNatClampNeg = u := nI_clamp (by omega)
      have nu : ¬ nI u = -1 := nI_m1 (by omega)
      refine ⟨fun z => absurd z nu, fun _ => ⟨xu, ?_⟩⟩
      rw [cu]
      refine ⟨fun z => w356_121 xs (d + 5) _ _ _ m _ (w356_122 xs (d + 5) _ _ _ _ m _ ⟨fun _ => ⟨xv, xu, s153 _ _ (Or.inl ⟨b5.trans (u7 z), rfl⟩)⟩, fun y => absurd y nu⟩), fun z => ⟨xu, ?_⟩⟩
      obtain ⟨c, t, r1, r2, r3, r4, r5, r6⟩ := u8 z
      refine w356_122 xs (d + 5) _ _ _ _ m _ ⟨fun _ => ⟨xv, xu, ?_⟩, fun y => absurd y nu⟩
      rw [cv, cu, e80, r4, r5]
      exact s153 _ _ (Or.inr ⟨c, t, r1, r2, b5.trans r3, rfl, rfl⟩)
theorem c354_33 (xs : List Int32) (d : Nat) {J : JV} (hO : JO J) {D : Nat → Prop} {σ : RS} {m : yM} (h : RJ J D σ m) (h0 : 0 < σ.1.length) (hd : dsB σ) (hP : PV σ) (hD : allD σ) {n : Nat} (hn : n < J.2.2.1.length) (n1 : n + 1 < J.2.2.1.length) (hnD : ¬ D n) (hK : kids J.2.2.1 n = [n + 1]) (kn : kK J.2.2.1 n = 33) (ks : σ.2.2.1 n = 33) (hvt0 : ¬ vtF J.2.2.1 n = 0) (hv0 : σ.2.2.2.1 n = vF J.2.2.1 n) (hvt : ¬ vtF J.2.2.1 (n + 1) = 0) (hv : σ.2.2.2.1 (n + 1) = vF J.2.2.1 (n + 1)) : yC (xg xs) (d + 7) 354 [.ref 58, .int (nI (J.2.2.2 n)), .int 33] m (JQp J (fun i => D i ∨ i = n) m n (lkOut σ n)) := by
  have hT := h.1
  have hR := h.2.1
  have n2 := hR.nV.2
  refine w354_0 xs (d + 6) _ _ m _ ⟨fun w => absurd w (by decide), fun w => absurd w (by decide), fun w => absurd w (by decide), fun _ => ?_, fun w => absurd w (by decide), fun w => absurd w (by decide), fun _ _ _ w => absurd rfl w⟩
  refine y_ci (c344 xs (d + 3) hO.1 hT hR h0 hd hD hn hvt0 (s := 2) (form := 10) (Or.inr (Or.inr ⟨rfl, rfl⟩))) (by omega) ?_
  unfold lkOut
  rw [hv0]
  generalize vF J.2.2.1 n = x at hv0
  have bad : ∀ c : Int32, 0 < c → JQp J (fun i => D i ∨ i = n) m n (.inr c) none (y_si (flM2 J m c n) 85 (J.2.2.2 n) (fVar σ x)) ∧ ¬ (y_si (flM2 J m c n) 85 (J.2.2.2 n) (fVar σ x)).1 58 3 = 0 := by
    intro c hc
    have fe := FE.mk J m hc n
    exact ⟨⟨rfl, (((JK.re m).fl J c n).si (by omega)).p _, by rw [y_si_at, if_neg (by omega)]; exact fe.1, fe.2.1, by rw [y_si_at, if_neg (by omega)]; exact fe.2.2⟩, by rw [y_si_at, if_neg (by omega)]; exact fe.ne⟩
  unfold nmF
  rcases fVar_c σ x with q1 | ⟨v, v1, v2, v3⟩
  · rw [if_pos q1, if_pos q1, if_neg (by decide)]
    obtain ⟨b1, b2⟩ := bad 20 (by decide)
    exact ⟨fun _ => b1, fun z => absurd z b2⟩
  · have q1 : ¬ fVar σ x = -1 := by rw [v2]; exact nI_m1 (by omega)
    rw [if_neg q1, if_neg q1]
    by_cases q2 : frm σ (fVar σ x).toNatClampNeg = 10
    · rw [if_pos q2, if_pos q2, if_pos rfl]
      have cv : (nI v).toNatClampNeg = v := nI_clamp (by omega)
      rw [v2, cv] at q2 ⊢
      have vo := hD v v1
      have h2 := h.s8 hn hnD (a := 85) (by omega) (nI v)
      have jk : JK m (y_si m 85 (J.2.2.2 n) (nI v)) := (JK.re m).si (by omega)
      refine ⟨fun z => absurd h2.2.1.f0 z, fun _ => ?_⟩
      refine yC.mono (Nat.le_refl _) (fun r m' q => ?_) (c356 xs d hO h2 hP hD hn n1 hK kn ks hvt hv vo q2)
      have q := JQp.tr (jk.p _) q
      exact ⟨q.1, rfl, q.2⟩
    · rw [if_neg q2, if_neg q2, if_neg (by decide)]
      obtain ⟨b1, b2⟩ := bad 21 (by decide)
      exact ⟨fun _ => b1, fun z => absurd z b2⟩
