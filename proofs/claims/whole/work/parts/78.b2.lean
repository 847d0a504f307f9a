/-! THE REFERENCE'S WRITER: statements -/
/-- the next loop above a node -/
def wk (F : List ND) (ℓ : Nat) : Nat → Nat → Prop
  | 0 => fun n => n = ℓ ∧ kK F ℓ = 19
  | k + 1 => fun n => ¬ kK F n = 19 ∧ ∃ p, p < F.length ∧ n ∈ kids F p ∧ wk F ℓ k p
theorem c371x (xs : List Int32) (D : Nat) {J : JV} {s : SU} {ℓ : Nat} (hℓ : ¬ ℓ = 0) {C : List IT} {m : yM} (h : RW J s m) (ho : RO J C m) : ∀ (k p : Nat), p < J.2.2.1.length → wk J.2.2.1 ℓ k p → yP (xg xs) (D + 2) 371 352 [(0, .ref 58), (4, .int (nI (J.2.2.2 p)))] [] m (fun r m' => r = none ∧ RO J (C ++ [(10, 0, 0, 0, mX ℓ, ℓ)]) m' ∧ KF m m') := by
  intro k
  induction k with
  | zero =>
    intro p hp hw
    obtain ⟨rfl, k19⟩ := hw
    refine w371_352 xs (D + 1) _ m _ ⟨h.t.x hp, ?_⟩
    rw [h.t.c hp, (h.t.2.1 p hp).2.1, k19]
    refine ⟨fun _ => yC.mono (by omega) (fun r m1 q => ⟨_, q.1, ?_⟩) (c369 xs D ho (10, 0, 0, 0, mX p, 0) rfl ?_ rfl rfl rfl), fun z => absurd rfl z⟩
    · obtain ⟨-, o1, e1⟩ := q
      refine ⟨x_in_nI (by omega) (by decide), rfl, ?_, e1.si (by omega)⟩
      rw [nI_clamp (by omega)]
      refine RO.up (S := []) (x := (10, 0, 0, 0, mX p, 0)) (y := (10, 0, 0, 0, mX p, p)) o1 (by rw [y_si_at, if_neg (by omega)]) (by rw [y_si_at, if_neg (by omega)]) (fun hl a k ha hk => ?_) (fun hl => ?_)
      · rw [List.length_append, List.length_singleton] at hl
        rw [y_si_at, if_neg (by omega)]
      · rw [List.length_append, List.length_singleton] at hl
        rintro ⟨g1, g2, g3, g4, g5⟩
        have em : min C.length 3000 = C.length := by omega
        rw [em]
        have o89 : (y_si m1 95 C.length (nI (J.2.2.2 p))).1 89 C.length = m1.1 89 C.length := by rw [y_si_at, if_neg (by omega)]
        have o90 : (y_si m1 95 C.length (nI (J.2.2.2 p))).1 90 C.length = m1.1 90 C.length := by rw [y_si_at, if_neg (by omega)]
        have o91 : (y_si m1 95 C.length (nI (J.2.2.2 p))).1 91 C.length = m1.1 91 C.length := by rw [y_si_at, if_neg (by omega)]
        have o92 : (y_si m1 95 C.length (nI (J.2.2.2 p))).1 92 C.length = m1.1 92 C.length := by rw [y_si_at, if_neg (by omega)]
        rw [o89, o90, o91, o92, y_si_same]
        refine ⟨g1, g2, g3, g4, ?_⟩
        unfold rlV
        rw [if_neg (show ¬ p = 0 from hℓ)]
    · unfold raV
      rw [if_neg (show ¬ mX p = 0 by unfold mX; omega), if_neg (show ¬ mX p % 2 = 1 by unfold mX; omega)]
  | succ k ih =>
    intro p hp hw
    obtain ⟨n19, q, ql, qm, hq⟩ := hw
    obtain ⟨j, hj⟩ := List.mem_iff_getElem?.mp qm
    refine w371_352 xs (D + 1) _ m _ ⟨h.t.x hp, ?_⟩
    rw [h.t.c hp, (h.t.2.1 p hp).2.1, ((h.t.2.1 q ql).2.2.2.2.2.2.2.2 j p hj).2.1]
    refine ⟨fun z => ?_, fun _ => ⟨h.t.x hp, ih q ql hq⟩⟩
    exfalso
    apply n19
    have k31 : kK J.2.2.1 p < 2 ^ 31 := by unfold kK; exact Int32.toNatClampNeg_lt _
    exact (nI_eq (b := 19) k31 (by omega)).mp z
theorem stK_f {k : Nat} (h : stK k) : k < 37 ∧ ¬ k = 6 ∧ ¬ (k = 34 ∨ k = 35 ∨ k = 36) := by
  unfold stK at h
  omega
theorem c371 (xs : List Int32) (D : Nat) {m0 : yM} {T : Nat} {J : JV} {s : SU} (hY : HY m0 T J.2.2.1 s) {N n u ℓ : Nat} (hW : TW m0 T J.2.2.1 N n) (ℓn : ℓ < n) (kst : stK (kK J.2.2.1 n)) (he : ∀ c, wE J.2.2.1 c → n < c → c < n + szF J.2.2.1 n → exR xs (D + 3) J s (cE J.2.2.1 s.1 N) c) (hb : ∀ b, (b ∈ kids J.2.2.1 n ∨ ∃ c, c ∈ kids J.2.2.1 n ∧ kK J.2.2.1 c = 17 ∧ b = lsK J.2.2.1 c) → kK J.2.2.1 b = 11 → (kK J.2.2.1 n = 19 → bodR xs (D + 3) J s u (wB J.2.2.1 s.1 N n) b) ∧ (¬ kK J.2.2.1 n = 19 → bodR xs (D + 3) J s u (wB J.2.2.1 s.1 N ℓ) b)) (hx : kK J.2.2.1 n = 20 → ¬ ℓ = 0 ∧ ∃ k p, p < J.2.2.1.length ∧ n ∈ kids J.2.2.1 p ∧ wk J.2.2.1 ℓ k p) (hq : ∀ ℓ' b, ℓ' < b → n < b → b < n + szF J.2.2.1 n → ∀ p x, x ∈ wB J.2.2.1 s.1 N ℓ' b p → QX J.2.2.1 ℓ' b (p + (wB J.2.2.1 s.1 N ℓ' b p).length) x) : staR xs (D + 5) J s u (wT J.2.2.1 s.1 (cE J.2.2.1 s.1 N) (wB J.2.2.1 s.1 N) ℓ n) n := by
  have hS := hY.1.1
  intro C m h
  have at' := hW.at
  have hn : n < J.2.2.1.length := by omega
  have hu := h.2.2.1
  have h0 := h.1
  have ho := h.2.1
  have x0 := h0.t.x hn
  have c0 := h0.t.c hn
  have ok := hW.ok
  have X := h0.t.2.1 n hn
  obtain ⟨X1, X2, X3, X4, X5, X6, X7, X8, X9⟩ := X
  obtain ⟨st1, st2, st3⟩ := stK_f kst
  have nx : ¬ xNm J.2.2.1 n := fun z => st2 z.1
  have kn : s.1.2.2.1 n = nI (kK J.2.2.1 n) := by
    rcases hS.ks hn with y | ⟨y, w⟩
    · exact y
    · exact absurd w st3
  have ik : ∀ q, q < 37 → (nI (kK J.2.2.1 n) = nI q ↔ kK J.2.2.1 n = q) := fun q hq => nI_eq (Nat.lt_trans st1 (by decide)) (Nat.lt_trans hq (by decide))
  have t : ∀ q, q < 37 → (s.1.2.2.1 n = nI q ↔ kK J.2.2.1 n = q) := fun q hq => by rw [kn]; exact ik q hq
  have t12 : s.1.2.2.1 n = 12 ↔ kK J.2.2.1 n = 12 := t 12 (by omega)
  have t13 : s.1.2.2.1 n = 13 ↔ kK J.2.2.1 n = 13 := t 13 (by omega)
  have t15 : s.1.2.2.1 n = 15 ↔ kK J.2.2.1 n = 15 := t 15 (by omega)
  have t16 : s.1.2.2.1 n = 16 ↔ kK J.2.2.1 n = 16 := t 16 (by omega)
  have t19 : s.1.2.2.1 n = 19 ↔ kK J.2.2.1 n = 19 := t 19 (by omega)
  have t20 : s.1.2.2.1 n = 20 ↔ kK J.2.2.1 n = 20 := t 20 (by omega)
  have nV := h0.b.1.2.2.1
  have e0 := cE_p J.2.2.1 s.1 N
  generalize hp : C.length - u = p at *
  refine w371_0 xs (D + 4) _ m _ ⟨x0, x0, ?_⟩
  rw [c0, X2, X6]
  refine ⟨fun z => ?_, fun z => ?_, fun z => ?_, fun z => ?_, fun z => ?_, fun z => ?_, fun z => ?_, fun z1 z2 z3 z4 z5 z6 z7 => ?_⟩
  · -- assignments
    have k := (ik 12 (by omega)).mp z
    rw [k] at ok
    obtain ⟨-, a, b, ha, hb', eks⟩ := ok
    obtain ⟨q1, q2, q3, q4, q5⟩ := hW.k2 eks
    have k0 : (kids J.2.2.1 n)[0]? = some (n + 1) := by rw [q1]; rfl
    have k1 : (kids J.2.2.1 n)[1]? = some (n + 1 + szF J.2.2.1 (n + 1)) := by rw [q1]; rfl
    have m1 := List.mem_of_getElem? k0
    have m2 := List.mem_of_getElem? k1
    have z1 := hW.kin m1
    have z2 := hW.kin m2
    have w1 := hS.kid hW hn m1 (by omega) (by rw [q2]; unfold exK; omega)
    have w2 := hS.kid hW hn m2 (by omega) (by rw [q3]; exact hb')
    have l0 : lkI J.2.2.2 (kids J.2.2.1 n)[0]? = nI (J.2.2.2 (n + 1)) := by rw [k0]; rfl
    have l68 := fun (m3 : yM) (e3 : KF m m3) => ((h0.kf e3).t.2.1 n hn).2.2.2.2.2.2.2.2 0 _ k0
    have l1 : lkI J.2.2.2 (kids J.2.2.1 n)[0 + 1]? = nI (J.2.2.2 (n + 1 + szF J.2.2.1 (n + 1))) := by rw [Nat.zero_add, k1]; rfl
    have xa := h0.t.x w1.1
    rw [l0, h0.t.c w1.1, (h0.t.2.1 _ w1.1).2.1]
    have ks1 : s.1.2.2.1 (n + 1) = nI (kK J.2.2.1 (n + 1)) := by
      rcases hS.ks w1.1 with y | ⟨y, w⟩
      · exact y
      · omega
    refine ⟨xa, xa, fun y => ⟨xa, ?_⟩, fun y => ⟨xa, ?_⟩⟩
    · have k32 : kK J.2.2.1 (n + 1) = 32 := by
        rw [q2] at y ⊢
        rcases ha with w | w
        · rw [w] at y; exact absurd rfl y
        · exact w
      obtain ⟨M, hM⟩ := hS.1.1 (n + 1) w1.1
      have okc := hM.ok
      rw [k32] at okc
      obtain ⟨-, a', ha', eks'⟩ := okc
      obtain ⟨r1, r2, r3, r4⟩ := hM.k1 eks'
      have m3 : n + 2 ∈ kids J.2.2.1 (n + 1) := by rw [r1]; exact List.mem_cons_self
      have w3 := hS.kid hM w1.1 m3 (by omega) (by rw [show n + 2 = n + 1 + 1 from rfl, r2]; exact ha')
      have z3 := hM.kin m3
      obtain ⟨v, v1, v2, v3⟩ := (hS.v w1.1).2.1 k32
      have l66 : m.1 66 (J.2.2.2 (n + 1)) = nI (J.2.2.2 (n + 2)) := by rw [(h0.t.2.1 _ w1.1).2.2.2.2.2.1, r1]; rfl
      rw [l66]
      refine yC.mono (by omega) (fun r m4 q => ⟨q.1, xa, ?_⟩) (he _ w3 (by omega) (by omega) C m h0 ho)
      rw [(l68 m4 q.2.2).2.2, l1]
      refine yC.mono (by omega) (fun r m5 q' => ⟨q'.1, ?_⟩) (he _ w2 z2.1 z2.2.1 _ m4 (h0.kf q.2.2) q.2.1)
      have e5 := q.2.2.tr q'.2.2
      obtain ⟨y1, y2, y3, y4, y5, y6, -⟩ := (h0.kf e5).x v2
      have xv : x_in (nI v) 4700 = true := x_in_nI y2 (by decide)
      rw [(h0.n w1.1 w1.2.2).2.1 (by omega), v1, nI_clamp (by omega), y5]
      have t9 : m5.1 78 v = s.1.2.2.2.1 ((vD s.1 v).2.1 + 1) ∧ m5.1 79 v = s.1.2.2.2.1 (vD s.1 v).2.1 := by
        unfold frm at v3
        rcases y6 with ⟨y, -⟩ | ⟨y, -, -, g1, g2⟩ | ⟨y, -⟩
        · rw [y] at v3; exact absurd v3 (by decide)
        · exact ⟨g1, g2⟩
        · rw [y] at v3; exact absurd v3 (by decide)
      rw [t9.1, t9.2]
      refine ⟨xv, xv, xv, c369j xs D (by omega) q'.2.1 (fun m6 o6 e6 => ⟨rfl, ?_, e5.tr e6⟩)⟩
      unfold wT
      rw [if_pos (t12.mpr k), if_pos (by rw [ks1, k32]; rfl), v1, nI_clamp (by omega)]
      unfold cEl
      simpa only [List.append_assoc] using o6
    · have k6 : kK J.2.2.1 (n + 1) = 6 := by
        rw [q2] at y ⊢
        rcases ha with w | w
        · exact w
        · rw [w] at y; exact absurd y (by decide)
      obtain ⟨v, v1, v2, v3⟩ := (hS.v w1.1).1 k6 w1.2.2
      rw [(l68 m (KF.re m)).2.2, l1]
      refine yC.mono (by omega) (fun r m4 q => ⟨q.1, ?_⟩) (he _ w2 z2.1 z2.2.1 C m h0 ho)
      obtain ⟨y1, y2, y3, y4, y5, -⟩ := (h0.kf q.2.2).x v2
      rw [(h0.n w1.1 w1.2.2).2.1 (by omega), v1, nI_clamp (by omega), y5]
      refine ⟨x_in_nI y2 (by decide), c369k xs D (by omega) q.2.1 (fun m6 o6 e6 => ⟨rfl, ?_, q.2.2.tr e6⟩)⟩
      unfold wT
      rw [if_pos (t12.mpr k), if_neg (by rw [ks1, k6]; decide)]
      unfold clV
      rw [v1, nI_clamp (by omega), ← List.append_assoc]
      exact o6
  · -- invocations
    have k := (ik 13 (by omega)).mp z
    rw [k] at ok
    obtain ⟨v, v1, v2, v3⟩ := (hS.v hn).2.2.1 k
    obtain ⟨y1, y2, -⟩ := h0.x v2
    have e85 := fun (m3 : yM) (e3 : KF m m3) => ((h0.kf e3).n hn nx).2.1 (by omega)
    have xv : x_in (nI v) 4700 = true := x_in_nI y2 (by decide)
    have cv : (nI v).toNatClampNeg = v := nI_clamp (by omega)
    have ew : wT J.2.2.1 s.1 (cE J.2.2.1 s.1 N) (wB J.2.2.1 s.1 N) ℓ n p = wIv J.2.2.1 s.1 (cE J.2.2.1 s.1 N) (kids J.2.2.1 n) ++ [if 9 ≤ s.1.2.2.2.1 (vD s.1 v).2.1 then j3 15 (s.1.2.2.2.1 (vD s.1 v).2.1 - 9) (vD s.1 v).2.2.2 0 else j3 17 (s.1.2.2.2.1 (vD s.1 v).2.1) (vD s.1 v).2.2.2 0] := by
      unfold wT clV
      rw [if_neg (fun y => by have := t12.mp y; omega), if_pos (t13.mpr k), v1, cv]
    rw [ew]
    have kl : ∀ c, c ∈ kids J.2.2.1 n → c < J.2.2.1.length := fun c hc => (hW.kin hc).2.2.2.1
    have lp : ∀ (L : List Nat) (j : Nat) (C1 : List IT) (m1 : yM), (kids J.2.2.1 n).drop j = L → RO J C1 m1 → KF m m1 → yP (xg xs) (D + 5) 371 168 [(0, .ref 58), (1, .int (nI (J.2.2.2 n))), (4, .int (lkI J.2.2.2 (kids J.2.2.1 n)[j]?))] [] m1 (fun r m' => r = none ∧ RO J (C1 ++ (wIv J.2.2.1 s.1 (cE J.2.2.1 s.1 N) L ++ [if 9 ≤ s.1.2.2.2.1 (vD s.1 v).2.1 then j3 15 (s.1.2.2.2.1 (vD s.1 v).2.1 - 9) (vD s.1 v).2.2.2 0 else j3 17 (s.1.2.2.2.1 (vD s.1 v).2.1) (vD s.1 v).2.2.2 0])) m' ∧ KF m m') := by
      intro L
      induction L with
      | nil =>
        intro j C1 m1 ed o1 e1
        have : (kids J.2.2.1 n)[j]? = none := by
          have := congrArg List.length ed
          rw [List.length_drop, List.length_nil] at this
          exact List.getElem?_eq_none_iff.mpr (by omega)
        rw [this]
        obtain ⟨y1, y2, y3, y4, y5, y6, -⟩ := (h0.kf e1).x v2
        have bt : btR (s.1.2.2.2.1 (vD s.1 v).2.1) (m1.1 77 v) := by
          unfold frm at v3
          rcases y6 with ⟨y, -⟩ | ⟨y, -⟩ | ⟨y, -, -, g⟩
          · rw [y] at v3; exact absurd v3 (by decide)
          · rw [y] at v3; exact absurd v3 (by decide)
          · exact g
        obtain ⟨q, b1, b2, b3⟩ := bt
        show yP _ _ _ _ _ _ _ (fun r m' => r = none ∧ RO J (C1 ++ ([] ++ _)) m' ∧ KF m m')
        rw [List.nil_append]
        refine w371_168 xs (D + 4) _ _ m1 _ ⟨fun _ => ⟨x0, ?_⟩, fun w => absurd rfl w⟩
        rw [c0, e85 m1 e1, v1, cv, b3, b1]
        have fin : ∀ o a : Int32, (if 9 ≤ nI q then j3 15 (nI q - 9) (vD s.1 v).2.2.2 0 else j3 17 (nI q) (vD s.1 v).2.2.2 0) = j3 o a (vD s.1 v).2.2.2 0 → yP (xg xs) (D + 5) 371 272 [(0, .ref 58), (4, .int (nI v))] [.int a, .int o, .ref 58] m1 (fun r m' => r = none ∧ RO J (C1 ++ [if 9 ≤ nI q then j3 15 (nI q - 9) (vD s.1 v).2.2.2 0 else j3 17 (nI q) (vD s.1 v).2.2.2 0]) m' ∧ KF m m') := by
          intro o a hoa
          refine w371_272 xs (D + 4) _ _ _ m1 _ ⟨xv, ?_⟩
          rw [cv, y5, hoa]
          exact c369j xs D (by omega) o1 (fun m2 o2 e2 => ⟨rfl, o2, e1.tr e2⟩)
        have i100 : ∀ r, r < 1000 → ((100 : Int32) ≤ nI r ↔ 100 ≤ r) := fun r hr => nI_leI (a := 100) (by omega) (by omega)
        by_cases q9 : q < 9
        · have n9 : ¬ (9 : Int32) ≤ nI q := fun w => by have := (nI_leI (a := 9) (by omega) (by omega)).mp w; omega
          have n100 : ¬ (100 : Int32) ≤ nI q := fun w => by have := (i100 q (by omega)).mp w; omega
          rw [if_pos q9] at b3 ⊢
          refine ⟨xv, fun w => absurd w n100, fun _ => w371_240 xs (D + 4) _ _ m1 _ ⟨xv, ?_⟩⟩
          rw [cv, b3]
          exact ⟨fun w => absurd w n100, fun _ => ⟨xv, fin 17 (nI q) (by rw [if_neg n9])⟩⟩
        · have y9 : (9 : Int32) ≤ nI q := nI_le (a := 9) (by omega) (by omega)
          have y100 : (100 : Int32) ≤ nI (q + 91) := (i100 (q + 91) (by omega)).mpr (by omega)
          rw [if_neg q9] at b3 ⊢
          have es : nI (q + 91) - 100 = nI q - 9 := by rw [show (100 : Int32) = nI 100 from rfl, show (9 : Int32) = nI 9 from rfl, nI_sub (by omega), nI_sub (by omega)]; congr 1
          refine ⟨xv, fun _ => w371_240 xs (D + 4) _ _ m1 _ ⟨xv, ?_⟩, fun w => absurd y100 w⟩
          rw [cv, b3]
          refine ⟨fun _ => ⟨xv, ?_⟩, fun w => absurd y100 w⟩
          rw [es]
          exact fin 15 (nI q - 9) (by rw [if_pos y9])
      | cons c L ih =>
        intro j C1 m1 ed o1 e1
        obtain ⟨d1, d2, d3⟩ := drop_s ed
        have cm := List.mem_of_getElem? d1
        have cl := kl c cm
        have zc := hW.kin cm
        have k14 := hW.mk ok.2 cm
        have h1 := h0.kf e1
        obtain ⟨M, hM⟩ := hS.1.1 c cl
        have okc := hM.ok
        rw [k14] at okc
        obtain ⟨-, a, ha, eks⟩ := okc
        obtain ⟨q1, q2, q3, q4⟩ := hM.k1 eks
        have m3 : c + 1 ∈ kids J.2.2.1 c := by rw [q1]; exact List.mem_cons_self
        have w3 := hS.kid hM cl m3 (by omega) (by rw [q2]; exact ha)
        have z3 := hM.kin m3
        have nxc : ¬ xNm J.2.2.1 c := fun z => by have := z.1; omega
        have ls : lkI J.2.2.2 (some c) = nI (J.2.2.2 c) := rfl
        have l66 : m1.1 66 (J.2.2.2 c) = nI (J.2.2.2 (c + 1)) := by rw [(h1.t.2.1 _ cl).2.2.2.2.2.1, q1]; rfl
        rw [d1, ls]
        refine w371_168 xs (D + 4) _ _ m1 _ ⟨fun w => absurd w (nI_ne1 (h1.t.i cl)), fun _ => ⟨h1.t.x cl, ?_⟩⟩
        rw [h1.t.c cl, l66]
        refine yC.mono (by omega) (fun r m2 q => ⟨q.1, h1.t.x cl, ?_⟩) (he _ w3 (by omega) (by omega) C1 m1 h1 o1)
        have e2 := e1.tr q.2.2
        rw [((h0.kf e2).n cl nxc).2.2.1 (by omega)]
        refine c369k xs D (by omega) q.2.1 (fun m4 o4 e4 => ⟨h1.t.x cl, ?_⟩)
        have e14 := e2.tr e4
        rw [(((h0.kf e14).t.2.1 n hn).2.2.2.2.2.2.2.2 j c d1).2.2]
        have := ih (j + 1) _ m4 d2 o4 e14
        show yP _ _ _ _ _ _ _ (fun r m' => r = none ∧ RO J (C1 ++ ((cE J.2.2.1 s.1 N (c + 1) ++ ([j1 2 (s.1.2.2.2.1 c)] ++ wIv J.2.2.1 s.1 (cE J.2.2.1 s.1 N) L)) ++ _)) m' ∧ KF m m')
        simpa only [List.append_assoc] using this
    exact lp (kids J.2.2.1 n) 0 C m rfl ho (KF.re m)
  · have k := (ik 15 (by omega)).mp z
    have := c374I xs (D + 2) hW k (e := cE J.2.2.1 s.1 N) (bd := wB J.2.2.1 s.1 N ℓ) (ℓ := ℓ) (s := s) (u := u) (fun c hc xc => by
      have zc := hW.kin hc
      exact he c (hS.kid hW hn hc (by omega) xc) zc.1 zc.2.1) (fun b bm k11 => (hb b (Or.inl bm) k11).2 (by omega)) (fun p x hx => wIf_q e0 _ _ _ (Nat.le_refl _) (fun b bm => by
        have zb := hW.kin bm
        exact ⟨⟨by omega, zb.2.2.1⟩, hq ℓ b (by omega) zb.1 zb.2.1⟩) (Nat.le_refl _) x hx) (-1) h
    rw [hp] at this
    refine yC.mono (Nat.le_refl _) (fun r m1 q => ⟨q.1, rfl, ?_, q.2.2⟩) this
    unfold wT
    rw [if_neg (fun y => by have := t12.mp y; omega), if_neg (fun y => by have := t13.mp y; omega), if_pos (t15.mpr k)]
    exact q.2.1
  · have k := (ik 16 (by omega)).mp z
    rw [k] at ok
    obtain ⟨-, ge, cs, sx, hge, hcs, hsx, eks⟩ := ok
    obtain ⟨g1, g2, g3⟩ := hW.k0 eks
    have z1 := hW.kin g2
    have w1 := hS.kid hW hn g2 (by omega) (by rw [g3]; exact hge)
    have l0 : lkI J.2.2.2 (kids J.2.2.1 n)[0]? = nI (J.2.2.2 (n + 1)) := by rw [g1]; rfl
    rw [l0, h0.t.c w1.1]
    refine yC.mono (by omega) (fun r m1 q => ⟨q.1, x0, ?_⟩) (he _ w1 z1.1 z1.2.1 C m h0 ho)
    rw [(h0.kf q.2.2).o hn (by omega)]
    refine c369k xs D (by omega) q.2.1 (fun m2 o2 e2 => ⟨h0.t.x w1.1, x0, ?_⟩)
    have e12 := q.2.2.tr e2
    rw [(((h0.kf e12).t.2.1 n hn).2.2.2.2.2.2.2.2 0 _ g1).2.2, (h0.kf e12).o hn (by omega)]
    have w2 := h.kf e12 o2 (by simp only [List.length_append]; omega)
    have := c374C xs (D + 1) hS hW k (bd := wB J.2.2.1 s.1 N ℓ) (ℓ := ℓ) (u := u) (fun b bb k11 => (hb b bb k11).2 (by omega)) (fun p x hx => wCs_q _ _ (fun b bm => by
      have kb' : kK J.2.2.1 b ∈ cs ++ sx := by
        have : kK J.2.2.1 b ∈ ((kids J.2.2.1 n).tail).map (kK J.2.2.1) := List.mem_map_of_mem bm
        rw [List.map_tail, eks] at this
        exact this
      have bm := List.mem_of_mem_tail bm
      have zb := hW.kin bm
      refine ⟨fun _ => ⟨⟨by omega, zb.2.2.1⟩, hq ℓ b (by omega) zb.1 zb.2.1⟩, fun qq => ?_⟩
      have k17 : kK J.2.2.1 b = 17 := by
        rcases List.mem_append.mp kb' with w | w
        · exact hcs _ w
        · exfalso
          apply qq
          have k11 : kK J.2.2.1 b = 11 := by
            rcases hsx with y | y
            · rw [y] at w; cases w
            · rw [y] at w; exact List.mem_singleton.mp w
          rcases hS.ks zb.2.2.2.1 with y | ⟨y, w⟩
          · rw [y, k11]; rfl
          · omega
      obtain ⟨M, hM⟩ := hS.1.1 b zb.2.2.2.1
      obtain ⟨-, -, -, lm, -, -⟩ := k17_s hM k17
      have zl := hM.kin lm
      exact ⟨⟨by omega, by omega⟩, hq ℓ _ (by omega) (by omega) (by omega)⟩) (Nat.le_refl _) x hx) w2
    refine yC.mono (Nat.le_refl _) (fun r m3 q3 => ⟨q3.1, rfl, ?_, e12.tr q3.2.2⟩) this
    have o3 := q3.2.1
    have pl' : (C ++ cE J.2.2.1 s.1 N (n + 1) ++ [j1 2 (s.1.2.2.2.2 n)]).length - u = p + (cE J.2.2.1 s.1 N (n + 1)).length + 1 := by rw [List.length_append, List.length_append, List.length_singleton]; omega
    rw [pl'] at o3
    unfold wT
    rw [if_neg (fun y => by have := t12.mp y; omega), if_neg (fun y => by have := t13.mp y; omega), if_neg (fun y => by have := t15.mp y; omega), if_pos (t16.mpr k), res_app, res_app, res_n (fun x hx => by rw [(e0 _ x hx).2.1]; unfold mE; omega), res_n (C := [j1 2 (s.1.2.2.2.2 n)]) (fun x hx => by rw [List.mem_singleton.mp hx]; show ¬ 0 = mE n; unfold mE; omega)]
    have le : p + (cE J.2.2.1 s.1 N (n + 1) ++ ([j1 2 (s.1.2.2.2.2 n)] ++ wCs J.2.2.1 s.1 n (wB J.2.2.1 s.1 N ℓ) (kids J.2.2.1 n).tail (p + (cE J.2.2.1 s.1 N (n + 1)).length + 1))).length = p + (cE J.2.2.1 s.1 N (n + 1)).length + 1 + (wCs J.2.2.1 s.1 n (wB J.2.2.1 s.1 N ℓ) (kids J.2.2.1 n).tail (p + (cE J.2.2.1 s.1 N (n + 1)).length + 1)).length := by rw [List.length_append, List.length_append, List.length_singleton]; omega
    rw [le]
    simpa only [List.append_assoc] using o3
  · have k := (ik 19 (by omega)).mp z
    obtain ⟨-, -, -, kb, bm⟩ := k19_s hS hW k
    have zb := hW.kin bm
    have := c377 xs D hS hW k (by omega) ((hb _ (Or.inl bm) kb).1 k) (hq n _ zb.1 zb.1 zb.2.1) h
    rw [hp] at this
    refine yC.mono (Nat.le_refl _) (fun r m1 q => ⟨q.1, rfl, ?_, q.2.2⟩) this
    unfold wT
    rw [if_neg (fun y => by have := t12.mp y; omega), if_neg (fun y => by have := t13.mp y; omega), if_neg (fun y => by have := t15.mp y; omega), if_neg (fun y => by have := t16.mp y; omega), if_pos (t19.mpr k)]
    exact q.2.1
  · have k := (ik 20 (by omega)).mp z
    obtain ⟨l0, q, pp, pl', pm, hw⟩ := hx k
    obtain ⟨j, hj⟩ := List.mem_iff_getElem?.mp pm
    rw [((h0.t.2.1 pp pl').2.2.2.2.2.2.2.2 j n hj).2.1]
    have ew : wT J.2.2.1 s.1 (cE J.2.2.1 s.1 N) (wB J.2.2.1 s.1 N) ℓ n p = [(10, 0, 0, 0, mX ℓ, ℓ)] := by
      unfold wT
      rw [if_neg (fun y => by have := t12.mp y; omega), if_neg (fun y => by have := t13.mp y; omega), if_neg (fun y => by have := t15.mp y; omega), if_neg (fun y => by have := t16.mp y; omega), if_neg (fun y => by have := t19.mp y; omega), if_pos (t20.mpr k)]
    rw [ew]
    exact ⟨x0, c371x xs (D + 3) l0 h0 ho q pp pl' hw⟩
  · have k := (ik 21 (by omega)).mp z
    refine c369k xs D (by omega) ho (fun m1 o1 e1 => ⟨rfl, ?_, e1⟩)
    unfold wT
    rw [if_neg (fun y => by have := t12.mp y; omega), if_neg (fun y => by have := t13.mp y; omega), if_neg (fun y => by have := t15.mp y; omega), if_neg (fun y => by have := t16.mp y; omega), if_neg (fun y => by have := t19.mp y; omega), if_neg (fun y => by have := t20.mp y; omega)]
    exact o1
  · exfalso
    have a12 : ¬ kK J.2.2.1 n = 12 := fun y => z1 ((ik 12 (by omega)).mpr y)
    have a13 : ¬ kK J.2.2.1 n = 13 := fun y => z2 ((ik 13 (by omega)).mpr y)
    have a15 : ¬ kK J.2.2.1 n = 15 := fun y => z3 ((ik 15 (by omega)).mpr y)
    have a16 : ¬ kK J.2.2.1 n = 16 := fun y => z4 ((ik 16 (by omega)).mpr y)
    have a19 : ¬ kK J.2.2.1 n = 19 := fun y => z5 ((ik 19 (by omega)).mpr y)
    have a20 : ¬ kK J.2.2.1 n = 20 := fun y => z6 ((ik 20 (by omega)).mpr y)
    have a21 : ¬ kK J.2.2.1 n = 21 := fun y => z7 ((ik 21 (by omega)).mpr y)
    unfold stK at kst
    simp only [a12, a13, a15, a16, a19, a20, a21, or_false] at kst
