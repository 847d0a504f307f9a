/-! JUDGE: all nodes, and where the last block's variables end -/
def EZ (A : List Nat) (s : SU) (m : yM) : Prop := A.length ≤ 1 → 0 < s.1.1.length → m.1 73 s.1.1.length = nI s.1.2.1.length
def RXy (J : JV) (A : List Nat) (i : Nat) (s : SU) (m : yM) : Prop := RX J A i s m ∧ EZ A s m
def JUy (J : JV) (A : List Nat) (n : Nat) (m : yM) (R : JR) (r : Option Value) (m' : yM) : Prop := r = none ∧ JX m m' ∧ match R with
  | .inl s' => RXy J A (n + szF J.2.2.1 n) s' m'
  | .inr (c, k) => FE J c k m'
theorem c321y (xs : List Int32) (d : Nat) {m0 : yM} {T : Nat} {J : JV} (hF : HF m0 T J.2.2.1) (hN : HN J.2.2.1) (hO : JO J) : ∀ (N : Nat) (A : List Nat) (n : Nat) (s : SU) (m : yM), PA m0 T J.2.2.1 N A n → PAll J.2.2.1 A n s → RXy J A n s m → yC (xg xs) (d + (2 * N + 12)) 321 [.ref 58, .int (nI (J.2.2.2 n))] m (JUy J A n m (jn J.2.2.1 N A n s)) := by
  intro N
  induction N with
  | zero => intro A n s m h; exact absurd h.1 (fun z => z)
  | succ N ih =>
    intro A n s m hp hP hX
    have hn := hp.lt.1
    have hT := hX.1.1.1
    have ei := hT.c hn
    have xi := hT.x hn
    have k37 := hp.1.k37
    have ejn : jn J.2.2.1 (N + 1) A n s = match jb s n with
      | .inr c => .inr (c, n)
      | .inl σ => match jl (jn J.2.2.1 N (A ++ [n])) (kids J.2.2.1 n) (σ, s.2) with
        | .inr e => .inr e
        | .inl s' => match lk J.2.2.1 A s'.1 s'.2 n with
          | .inr c => .inr (c, n)
          | .inl σ' => .inl (σ', nU s'.1 s'.2 n) := rfl
    obtain ⟨kn, vn, -⟩ := hP.1.1.1 n hn (Or.inl (Nat.le_refl _))
    -- a fault ends it
    have bad : ∀ (c : Int32) (k : Nat) (m1 : yM), JX m m1 → FE J c k m1 → jn J.2.2.1 (N + 1) A n s = .inr (c, k) → yP (xg xs) (d + (2 * (N + 1) + 12)) 321 61 [(0, .ref 58), (1, .int (nI (J.2.2.2 n))), (2, .int (nI (kK J.2.2.1 n)))] [] m1 (JUy J A n m (jn J.2.2.1 (N + 1) A n s)) := by
      intro c k m1 jx fe e
      refine w321_61 xs (d + (2 * N + 13)) _ _ m1 _ ⟨fun z => absurd z fe.nle, fun _ => ?_⟩
      rw [e]
      exact ⟨rfl, jx, fe⟩
    have bad34 : ∀ (c : Int32) (k : Nat) (m1 : yM) (l3 : Int32), JX m m1 → FE J c k m1 → jn J.2.2.1 (N + 1) A n s = .inr (c, k) → yP (xg xs) (d + (2 * (N + 1) + 12)) 321 34 [(0, .ref 58), (1, .int (nI (J.2.2.2 n))), (2, .int (nI (kK J.2.2.1 n))), (3, .int l3)] [] m1 (JUy J A n m (jn J.2.2.1 (N + 1) A n s)) := by
      intro c k m1 l3 jx fe e
      exact w321_34 xs (d + (2 * N + 13)) _ _ _ m1 _ ⟨fun _ => bad c k m1 jx fe e, fun _ => ⟨fun _ => bad c k m1 jx fe e, fun z => absurd z fe.ne⟩⟩
    -- what is below it, then the look
    have s27 : ∀ (σ : RS) (m1 : yM), jb s n = .inl σ → RXy J (A ++ [n]) (n + 1) (σ, s.2) m1 → JX m m1 → yP (xg xs) (d + (2 * (N + 1) + 12)) 321 27 [(0, .ref 58), (1, .int (nI (J.2.2.2 n))), (2, .int (nI (kK J.2.2.1 n)))] [] m1 (JUy J A n m (jn J.2.2.1 (N + 1) A n s)) := by
      intro σ m1 hb hX1 jx1
      rw [hb] at ejn
      dsimp only at ejn
      have p1 := hP.b hF hp hb
      have lp : ∀ (L : List Nat) (j i : Nat) (s1 : SU) (m2 : yM), (kids J.2.2.1 n).drop j = L → tile J.2.2.1 L i (n + szF J.2.2.1 n) → PAll J.2.2.1 (A ++ [n]) i s1 → RXy J (A ++ [n]) i s1 m2 → JX m m2 → jl (jn J.2.2.1 N (A ++ [n])) L s1 = jl (jn J.2.2.1 N (A ++ [n])) (kids J.2.2.1 n) (σ, s.2) → yP (xg xs) (d + (2 * (N + 1) + 12)) 321 34 [(0, .ref 58), (1, .int (nI (J.2.2.2 n))), (2, .int (nI (kK J.2.2.1 n))), (3, .int (lkI J.2.2.2 (kids J.2.2.1 n)[j]?))] [] m2 (JUy J A n m (jn J.2.2.1 (N + 1) A n s)) := by
        intro L
        induction L with
        | nil =>
          intro j i s1 m2 ed ht pt rx jx ejl
          have ht : i = n + szF J.2.2.1 n := ht
          subst ht
          have g0 : (kids J.2.2.1 n)[j]? = none := by
            rw [List.getElem?_eq_none_iff]
            exact List.drop_eq_nil_iff.mp ed
          have ejl : (.inl s1 : JR) = jl (jn J.2.2.1 N (A ++ [n])) (kids J.2.2.1 n) (σ, s.2) := ejl
          rw [← ejl] at ejn
          dsimp only at ejn
          rw [g0]
          refine w321_34 xs (d + (2 * N + 13)) _ _ _ m2 _ ⟨fun _ => ?_, fun z => absurd rfl z⟩
          have f0 := rx.1.1.2.1.f0
          have cx : CX m0 T J (N + 1) A n s1 m2 := ⟨⟨hF, hN, hO⟩, hp, pt, rx.1⟩
          obtain ⟨a1, a2, a3, a4⟩ := jk_a xs (d + N + 3) cx
          have fin : ∀ {meth : Nat}, yC (xg xs) (d + N + 3 + N + 10) meth [.ref 58, .int (nI (J.2.2.2 n)), .int (nI (kK J.2.2.1 n))] m2 (fun r m' => LKQ J A n s1 m2 (lk J.2.2.1 A s1.1 s1.2 n) r m' ∧ ∀ σ', lk J.2.2.1 A s1.1 s1.2 n = .inl σ' → EZ A (σ', nU s1.1 s1.2 n) m') → yC (xg xs) (d + (2 * N + 13)) meth [.ref 58, .int (nI (J.2.2.2 n)), .int (nI (kK J.2.2.1 n))] m2 (fun v1 m1 => v1 = none ∧ JUy J A n m (jn J.2.2.1 (N + 1) A n s) none m1) := by
            intro meth c
            refine yC.mono (by omega) (fun r m3 q => ?_) c
            obtain ⟨⟨q1, q2, q3⟩, q4⟩ := q
            refine ⟨q1, rfl, jx.tr q2, ?_⟩
            rw [ejn]
            rcases hl : lk J.2.2.1 A s1.1 s1.2 n with σ' | c
            · rw [hl] at q3
              exact ⟨q3, q4 σ' hl⟩
            · rw [hl] at q3
              exact q3
          -- below a block nothing is owed
          have deep : ∀ {meth : Nat}, 2 ≤ A.length → yC (xg xs) (d + N + 3 + N + 10) meth [.ref 58, .int (nI (J.2.2.2 n)), .int (nI (kK J.2.2.1 n))] m2 (LKQ J A n s1 m2 (lk J.2.2.1 A s1.1 s1.2 n)) → yC (xg xs) (d + N + 3 + N + 10) meth [.ref 58, .int (nI (J.2.2.2 n)), .int (nI (kK J.2.2.1 n))] m2 (fun r m' => LKQ J A n s1 m2 (lk J.2.2.1 A s1.1 s1.2 n) r m' ∧ ∀ σ', lk J.2.2.1 A s1.1 s1.2 n = .inl σ' → EZ A (σ', nU s1.1 s1.2 n) m') := fun h2 c => yC.mono (Nat.le_refl _) (fun r m' q => ⟨q, fun σ' _ z => by omega⟩) c
          have l2 : ¬ (kK J.2.2.1 n = 0 ∨ kK J.2.2.1 n = 1 ∨ kK J.2.2.1 n = 2 ∨ kK J.2.2.1 n = 3) → 2 ≤ A.length := by
            intro z
            rcases hp.up with ⟨-, y2⟩ | ⟨B, p, M, u1, u2, u3, u4, u5⟩
            · rw [y2, hF.2.2.1] at z; omega
            · rcases u5.up with ⟨y1, y2⟩ | ⟨B', p', M', v1, -⟩
              · exfalso
                rw [y2, hF.2.2.1] at u4
                have : ∀ x, x ∈ kidK 0 → x = 1 ∨ x = 2 ∨ x = 3 := by decide
                have := this _ u4
                omega
              · rw [u1, v1, List.length_append, List.length_append, List.length_singleton, List.length_singleton]
                omega
          have a4' : ¬ 12 ≤ kK J.2.2.1 n → yC (xg xs) (d + N + 3 + N + 10) 327 [.ref 58, .int (nI (J.2.2.2 n)), .int (nI (kK J.2.2.1 n))] m2 (fun r m' => LKQ J A n s1 m2 (lk J.2.2.1 A s1.1 s1.2 n) r m' ∧ ∀ σ', lk J.2.2.1 A s1.1 s1.2 n = .inl σ' → EZ A (σ', nU s1.1 s1.2 n) m') := by
            intro y
            by_cases kb : kK J.2.2.1 n = 1 ∨ kK J.2.2.1 n = 2 ∨ kK J.2.2.1 n = 3
            · refine yC.mono (Nat.le_refl _) (fun r m' q => ?_) ((a4 y).and (yC.mono (by omega) (fun _ _ z => z) (jk_z xs d cx kb rfl)))
              obtain ⟨q1, m'', w1, q2⟩ := q
              refine ⟨q1, fun σ' hl _ _ => ?_⟩
              obtain ⟨g1, g2, g3⟩ := q1
              rw [hl] at g3
              have g3 : RX J A (n + szF J.2.2.1 n) (σ', nU s1.1 s1.2 n) m' := g3
              have := q2 σ' hl
              have e73 : m''.1 73 = m'.1 73 := y_w_a w1 (k := 73) rfl (by decide)
              have e30 : m''.1 58 30 = m'.1 58 30 := y_w_f w1 (k := 58) (i := 30) rfl rfl
              rw [e73, e30, g3.1.2.1.1.2.2.2.2.1] at this
              exact this
            · by_cases k0 : kK J.2.2.1 n = 0
              · have hk := pt.1.2.1.2.2.2.2.2.1
                have c0 := c327_0z xs (d + N + 3 + N + 8) rx.1.1 hn hk
                have ek : (nI (kK J.2.2.1 n)) = 0 := by rw [k0]; rfl
                have a4y := a4 y
                rw [ek] at a4y ⊢
                refine yC.mono (Nat.le_refl _) (fun r m' q => ?_) (a4y.and c0)
                obtain ⟨q1, m'', w1, q2⟩ := q
                refine ⟨q1, fun σ' hl z1 z2 => ?_⟩
                have kk0 : s1.1.2.2.1 n = 0 := by
                  obtain ⟨kn', -, -⟩ := pt.1.1.1 n hn (Or.inr (List.mem_append_right _ List.mem_cons_self))
                  rw [kn', k0]; rfl
                have hl' := hl
                unfold lk at hl'
                rw [if_pos kk0] at hl'
                have e73 : m''.1 73 = m'.1 73 := y_w_a w1 (k := 73) rfl (by decide)
                have em := q2.2 ⟨_, hl'⟩
                rw [← e73, em]
                have es : σ' = s1.1 := by
                  unfold lkText at hl'
                  split at hl'
                  · split at hl'
                    · exact inl_e hl'
                    · cases hl'
                  · cases hl'
                show m2.1 73 σ'.1.length = nI σ'.2.1.length
                have z2 : 0 < σ'.1.length := z2
                rw [es] at z2 ⊢
                refine rx.2 ?_ z2
                have n0 : A = [] := by
                  rcases hp.up with ⟨y1, -⟩ | ⟨B, p, M, u1, u2, u3, u4, u5⟩
                  · exact y1
                  · exfalso
                    rw [k0] at u4
                    have : ∀ k, k < 37 → ¬ 0 ∈ kidK k := by decide
                    exact this _ u5.1.k37 u4
                rw [n0]
                exact Nat.le_refl _
              · exact deep (l2 (by omega)) (a4 y)
          have le : ∀ a, a < 37 → ((nI a ≤ nI (kK J.2.2.1 n)) ↔ a ≤ kK J.2.2.1 n) := fun a ha => nI_leI (by omega) (by omega)
          refine w321_61 xs (d + (2 * N + 13)) _ _ m2 _ ⟨fun _ => ⟨fun z => ⟨fun z2 => ⟨fun z3 => fin (deep (l2 (by have := (le 30 (by omega)).mp z3; omega)) (a1 ((le 30 (by omega)).mp z3))), fun z3 => fin (deep (l2 (by have := (le 22 (by omega)).mp z2; omega)) (a2 ((le 22 (by omega)).mp z2) (fun y => z3 ((le 30 (by omega)).mpr y))))⟩, fun z2 => fin (deep (l2 (by have := (le 12 (by omega)).mp z; omega)) (a3 ((le 12 (by omega)).mp z) (fun y => z2 ((le 22 (by omega)).mpr y))))⟩, fun z => fin (a4' (fun y => z ((le 12 (by omega)).mpr y)))⟩, fun z => absurd (by rw [f0]; decide) z⟩
        | cons c L ihL =>
          intro j i s1 m2 ed ht pt rx jx ejl
          obtain ⟨rfl, ht⟩ := ht
          have hj : (kids J.2.2.1 n)[j]? = some c := by
            have := congrArg (fun l => l[0]?) ed
            simpa using this
          have e' : (kids J.2.2.1 n).drop (j + 1) = L := by
            have := congrArg (List.drop 1) ed
            rw [List.drop_drop] at this
            simpa using this
          have hT2 := rx.1.1.1
          have f0 := rx.1.1.2.1.f0
          have pc := hp.kd hj
          have cl := pc.lt.1
          have ejl : (match jn J.2.2.1 N (A ++ [n]) c s1 with | .inr e => .inr e | .inl s' => jl (jn J.2.2.1 N (A ++ [n])) L s') = jl (jn J.2.2.1 N (A ++ [n])) (kids J.2.2.1 n) (σ, s.2) := ejl
          rw [hj]
          have l3 : lkI J.2.2.2 (some c) = nI (J.2.2.2 c) := rfl
          rw [l3]
          refine w321_34 xs (d + (2 * N + 13)) _ _ _ m2 _ ⟨fun z => absurd z (nI_m1 (by have := hT2.i cl; omega)), fun _ => ⟨fun z => absurd f0 z, fun _ => ?_⟩⟩
          refine yC.mono (show d + (2 * N + 12) ≤ d + (2 * N + 13) by omega) (fun r m3 q => ?_) (ih (A ++ [n]) c s1 m2 pc pt rx)
          obtain ⟨q1, q2, q3⟩ := q
          refine ⟨q1, hT2.x cl, ?_⟩
          rw [hT2.c cl]
          rcases hc : jn J.2.2.1 N (A ++ [n]) c s1 with s2 | ⟨e, k⟩
          · rw [hc] at q3 ejl
            have q3 : RXy J (A ++ [n]) (c + szF J.2.2.1 c) s2 m3 := q3
            rw [(q3.1.1.1.kc hn hj).2.2]
            exact ihL (j + 1) (c + szF J.2.2.1 c) s2 m3 e' ht (jn_ind (P := PAll J.2.2.1) (fun N A n s σ hp h e => PAll.b hF hp h e) (fun N A n s σ' hp h e => PAll.l hF hp h e) N (A ++ [n]) c s1 pc pt s2 hc) q3 (jx.tr q2) ejl
          · rw [hc] at q3 ejl
            have q3 : FE J e k m3 := q3
            dsimp only at ejl
            rw [← ejl] at ejn
            exact bad34 e k m3 _ (jx.tr q2) q3 ejn
      refine w321_27 xs (d + (2 * N + 13)) _ _ m1 _ ⟨xi, ?_⟩
      rw [ei, (hX1.1.1.1.2.1 n hn).2.2.2.2.2.1]
      exact lp (kids J.2.2.1 n) 0 (n + 1) (σ, s.2) m1 rfl hp.1.til p1 hX1 jx1 rfl
    refine w321_0 xs (d + (2 * N + 13)) _ m _ ⟨xi, ?_⟩
    rw [ei, (hT.2.1 n hn).2.1]
    have s22 : (kK J.2.2.1 n = 1 ∨ kK J.2.2.1 n = 2 ∨ kK J.2.2.1 n = 3) → yP (xg xs) (d + (2 * N + 13) + 1) 321 22 [(0, .ref 58), (1, .int (nI (J.2.2.2 n))), (2, .int (nI (kK J.2.2.1 n)))] [] m (JUy J A n m (jn J.2.2.1 (N + 1) A n s)) := by
      intro kb
      refine w321_22 xs (d + (2 * N + 13)) _ _ m _ ?_
      refine yC.mono (show d + 2 * N + 7 + 6 ≤ d + (2 * N + 13) by omega) (fun r m1 q => ?_) (jk_g xs (d + 2 * N + 7) hF hO hp hP hX.1 kb)
      obtain ⟨q1, q2, q3⟩ := q
      refine ⟨q1, ?_⟩
      rcases hb : jb s n with σ | c
      · rw [hb] at q3
        exact s27 σ m1 hb ⟨q3, fun z => by rw [hp.blk hF.2.2.1 kb] at z; simp at z⟩ q2
      · rw [hb] at q3 ejn
        have q3 : FE J c n m1 := q3
        dsimp only at ejn
        refine w321_27 xs (d + (2 * N + 13)) _ _ m1 _ ⟨xi, ?_⟩
        exact bad34 c n m1 _ q2 q3 ejn
    have i1 : nI (kK J.2.2.1 n) = 1 ↔ kK J.2.2.1 n = 1 := nI_eq (b := 1) (by omega) (by omega)
    have i2 : nI (kK J.2.2.1 n) = 2 ↔ kK J.2.2.1 n = 2 := nI_eq (b := 2) (by omega) (by omega)
    have i3 : nI (kK J.2.2.1 n) = 3 ↔ kK J.2.2.1 n = 3 := nI_eq (b := 3) (by omega) (by omega)
    refine ⟨fun z => s22 (Or.inl (i1.mp z)), fun z1 => ⟨fun z => s22 (Or.inr (Or.inl (i2.mp z))), fun z2 => ⟨fun z3 => ?_, fun z => s22 (Or.inr (Or.inr (i3.mp z)))⟩⟩⟩
    have nb : ¬ (kK J.2.2.1 n = 1 ∨ kK J.2.2.1 n = 2 ∨ kK J.2.2.1 n = 3) := fun z => by
      rcases z with z | z | z
      · exact z1 (i1.mpr z)
      · exact z2 (i2.mpr z)
      · exact z3 (i3.mpr z)
    have hb : jb s n = .inl s.1 := by
      unfold jb
      rw [if_neg (by rw [kn]; exact fun z => nb ((ch37e _ k37).mp z))]
    exact s27 s.1 m hb ⟨RX.n hF hp hX.1 nb, fun z => hX.2 (by rw [List.length_append, List.length_singleton] at z; omega)⟩ (JX.re m)
