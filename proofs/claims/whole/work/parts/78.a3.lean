/-! THE REFERENCE'S WRITER: expressions, whole -/
def P19 (F : List ND) (s : SU) : Prop := ∀ j, j < F.length → (kK F j = 35 ∨ kK F j = 36) → s.1.2.2.1 j = nI (kK F j) → s.1.2.2.2.1 j = vF F j
theorem P19.b {F : List ND} {n : Nat} {s : SU} {σ : RS} (h : P19 F s) (e : jb s n = .inl σ) : P19 F (σ, s.2) := by
  unfold jb at e
  split at e
  · unfold lkBeg at e
    split at e
    · cases e
    split at e
    · cases e
    · have e' := inl_e e
      obtain ⟨y1, y2, y3, y4, y5, y6, y7⟩ := beg_y s.1 n (s.1.2.2.1 n) (s.1.2.2.2.1 n)
      rw [← e'] at y6
      intro j j1 k z
      have z : σ.2.2.1 j = _ := z
      show σ.2.2.2.1 j = _
      rw [y6] at z ⊢
      exact h j j1 k z
  · rw [inl_e e]; exact h
theorem P19.l {m0 : yM} {T : Nat} {F : List ND} {N : Nat} {A : List Nat} {n : Nat} {s : SU} {σ' : RS} (hp : PA m0 T F N A n) (h1 : P1 F (A ++ [n]) (n + szF F n) s) (h : P19 F s) (e : lk F A s.1 s.2 n = .inl σ') : P19 F (σ', nU s.1 s.2 n) := by
  have hn := hp.lt.1
  have k37 := hp.1.k37
  have nA : n ∈ A ++ [n] := List.mem_append_right _ List.mem_cons_self
  obtain ⟨kn, vn, tn⟩ := h1.1 n hn (Or.inr nA)
  obtain ⟨e1, -⟩ := lk_ef e (fun z => by
    rw [kn] at z
    exact (h1.2.2.2.2 n nA ((ch37e _ k37).mp z)).2.1)
  intro j j1 k z
  have z : σ'.2.2.1 j = _ := z
  show σ'.2.2.2.1 j = _
  by_cases ne : j = n
  · subst ne
    have bad : ∀ (σ : RS) (x : Int32), σ' = bcN σ j x → False := by
      intro σ x q
      rw [q] at z
      have z : upI σ.2.2.1 j 30 j = _ := z
      rw [upI_n] at z
      rcases k with k | k <;> rw [k] at z <;> exact absurd z (by decide)
    rcases k with k | k
    · rw [lk_x (by rw [kn, k]; decide), lkX_35 (by rw [kn, k]; rfl)] at e
      unfold lkTwo at e
      split at e
      · cases e
      split at e
      · exact absurd (inl_e e) (fun q => bad _ _ q)
      · rw [inl_e e]; exact vn
    · rw [lk_x (by rw [kn, k]; decide), lkX_36 (by rw [kn, k]; rfl)] at e
      unfold lkOne at e
      split at e
      · cases e
      split at e
      · exact absurd (inl_e e) (fun q => bad _ _ q)
      · rw [inl_e e]; exact vn
  · rw [(e1 j ne).1] at z
    rw [(e1 j ne).2]
    exact h j j1 k z
theorem jn_19 {m0 : yM} {T N : Nat} {F : List ND} (hF : HF m0 T F) (hW : TW m0 T F N 0) {s : SU} (e : jn F N [] 0 (sg0 F) = .inl s) : P19 F s := by
  have := jn_ind (P := fun A i s => PAll F A i s ∧ P19 F s) (m0 := m0) (T := T) (F := F) (fun N A n s σ hp h e => ⟨PAll.b hF hp h.1 e, P19.b h.2 e⟩) (fun N A n s σ' hp h e => ⟨PAll.l hF hp h.1 e, P19.l hp h.1.1.1 h.2 e⟩) N [] 0 (sg0 F) ⟨hW, rfl, fun p hp => by cases hp⟩ ⟨PAll.z (fun j hj => hF.1.k hj), fun j _ _ _ => rfl⟩ s e
  exact this.2
/-- all that is known, for the reference's writer -/
def HY (m0 : yM) (T : Nat) (F : List ND) (s : SU) : Prop := HZ m0 T F s ∧ P19 F s
theorem nI_ne1 {k : Nat} (h : k < 20000) : ¬ nI k = -1 := fun w => by
  have := nI_toInt (show k < 2 ^ 31 by omega)
  rw [w] at this
  have : (-1 : Int32).toInt = -1 := by decide
  omega
theorem exK36 {k : Nat} (h : exK k) (a6 : ¬ k = 6) (a30 : ¬ k = 30) (a31 : ¬ k = 31) (a32 : ¬ k = 32) (a33 : ¬ k = 33) (a34 : ¬ k = 34) (a35 : ¬ k = 35) : k = 36 := by
  unfold exK at h
  simp only [a6, a30, a31, a32, a33, a34, a35, false_or, or_false] at h
  exact h
theorem c372 (xs : List Int32) (d : Nat) {m0 : yM} {T : Nat} {J : JV} {s : SU} (hY : HY m0 T J.2.2.1 s) : ∀ (N n : Nat), TW m0 T J.2.2.1 N n → wE J.2.2.1 n → ∀ (C : List IT) (m : yM), RW J s m → RO J C m → yC (xg xs) (d + 2 * N + 3) 372 [.ref 58, .int (nI (J.2.2.2 n))] m (fun r m' => r = none ∧ RO J (C ++ cE J.2.2.1 s.1 N n) m' ∧ KF m m') := by
  have hS := hY.1.1
  intro N
  induction N with
  | zero => intro n h; exact absurd h (fun z => z)
  | succ N ih =>
    intro n hW hw C m h ho
    obtain ⟨hn, hx, nx⟩ := hw
    have k37 := hW.k37
    have ok := hW.ok
    have hv := hS.v hn
    have hT := h.t
    have x0 := hT.x hn
    have c0 := hT.c hn
    have X := hT.2.1 n hn
    obtain ⟨X1, X2, X3, X4, X5, X6, X7, X8, X9⟩ := X
    obtain ⟨V1, V2, V3, V4⟩ := h.n hn nx
    obtain ⟨V1a, V1b, V1c⟩ := V1 hx
    have ks := hS.ks hn
    have es : cE J.2.2.1 s.1 (N + 1) n = if s.1.2.2.1 n = 6 then [j1 1 (vD s.1 (s.1.2.2.2.1 n).toNatClampNeg).2.2.2] else if s.1.2.2.1 n = 33 then [j1 1 (s.1.2.2.2.1 n)] else if s.1.2.2.1 n = 32 then cE J.2.2.1 s.1 N (n + 1) ++ [cEl s.1 3 (s.1.2.2.2.1 n).toNatClampNeg] else if s.1.2.2.1 n = 34 then clA (s.1.2.2.2.1 n) (cE J.2.2.1 s.1 N) (kids J.2.2.1 n) 0 ++ clZ J.2.2.1 s.1 n else if s.1.2.2.1 n = 35 then cE J.2.2.1 s.1 N (n + 1) ++ (cE J.2.2.1 s.1 N (n + 1 + szF J.2.2.1 (n + 1)) ++ [j1 7 (nTwo (s.1.2.2.2.1 n) (s.1.2.2.2.2 n))]) else if s.1.2.2.1 n = 36 then cE J.2.2.1 s.1 N (n + 1) ++ [j1 8 (nOne (s.1.2.2.2.1 n) (s.1.2.2.2.2 n))] else [j1 0 (s.1.2.2.2.1 n)] := rfl
    have ih' : ∀ c, c ∈ kids J.2.2.1 n → wE J.2.2.1 c → ∀ (C : List IT) (m : yM), RW J s m → RO J C m → yC (xg xs) (d + 2 * N + 3) 372 [.ref 58, .int (nI (J.2.2.2 c))] m (fun r m' => r = none ∧ RO J (C ++ cE J.2.2.1 s.1 N c) m' ∧ KF m m') := fun c hcm => ih c (hW.2.2.2.2.2.2 c hcm)
    have ik : ∀ q, q < 37 → (nI (kK J.2.2.1 n) = nI q ↔ kK J.2.2.1 n = q) := fun q hq => nI_eq (by omega) (by omega)
    -- what is no constant
    have s43 : ¬ cnP s.1 n → yP (xg xs) (d + 2 * N + 5) 372 43 [(0, .ref 58), (1, .int (nI (J.2.2.2 n)))] [] m (fun r m' => r = none ∧ RO J (C ++ cE J.2.2.1 s.1 (N + 1) n) m' ∧ KF m m') := by
      intro nc
      have kn : s.1.2.2.1 n = nI (kK J.2.2.1 n) := by
        rcases ks with y | ⟨y, -⟩
        · exact y
        · exact absurd (Or.inl y) nc
      have n30 : ¬ kK J.2.2.1 n = 30 := fun z => nc (Or.inl (by rw [kn, z]; rfl))
      have n31 : ¬ kK J.2.2.1 n = 31 := fun z => nc (Or.inr (by rw [kn, z]; rfl))
      have t : ∀ q, q < 37 → (s.1.2.2.1 n = nI q ↔ kK J.2.2.1 n = q) := fun q hq => by rw [kn]; exact ik q hq
      have t6 : s.1.2.2.1 n = 6 ↔ kK J.2.2.1 n = 6 := t 6 (by omega)
      have t32 : s.1.2.2.1 n = 32 ↔ kK J.2.2.1 n = 32 := t 32 (by omega)
      have t33 : s.1.2.2.1 n = 33 ↔ kK J.2.2.1 n = 33 := t 33 (by omega)
      have t34 : s.1.2.2.1 n = 34 ↔ kK J.2.2.1 n = 34 := t 34 (by omega)
      have t35 : s.1.2.2.1 n = 35 ↔ kK J.2.2.1 n = 35 := t 35 (by omega)
      have t36 : s.1.2.2.1 n = 36 ↔ kK J.2.2.1 n = 36 := t 36 (by omega)
      refine w372_43 xs (d + 2 * N + 4) _ m _ ⟨x0, x0, ?_⟩
      rw [c0, X2]
      refine ⟨fun z => ?_, fun z => ?_, fun z => ?_, fun z => ?_, fun z => ?_, fun z1 z2 z3 z4 z5 => ?_⟩
      · have k := (ik 6 (by omega)).mp z
        obtain ⟨v, v1, v2, v3⟩ := hv.1 k nx
        obtain ⟨w1, w2, w3, w4, w5, -⟩ := h.x v2
        rw [V2 (Or.inl k), v1, nI_clamp (by omega), w5]
        refine ⟨x0, x_in_nI (by omega) (by decide), c369k xs d (by omega) ho (fun m1 o1 e1 => ⟨rfl, ?_, e1⟩)⟩
        rw [es, if_pos (t6.mpr k), v1, nI_clamp (by omega)]
        exact o1
      · have k := (ik 32 (by omega)).mp z
        obtain ⟨v, v1, v2, v3⟩ := hv.2.1 k
        rw [k] at ok
        obtain ⟨-, a, ha, eks⟩ := ok
        obtain ⟨m1, m2, m3, m4⟩ := hW.k1 eks
        have cm : n + 1 ∈ kids J.2.2.1 n := by rw [m1]; exact List.mem_cons_self
        have we := hS.kid hW hn cm (by omega) (by rw [m2]; exact ha)
        have l0 : lkI J.2.2.2 (kids J.2.2.1 n)[0]? = nI (J.2.2.2 (n + 1)) := by rw [m1]; rfl
        rw [X6, l0]
        refine yC.mono (by omega) (fun r m2 q => ⟨q.1, x0, ?_⟩) (ih' (n + 1) cm we C m h ho)
        have h2 := h.kf q.2.2
        obtain ⟨w1, w2, w3, w4, w5, w6, -⟩ := h2.x v2
        have xv : x_in (nI v) 4700 = true := x_in_nI (by omega) (by decide)
        rw [(h2.n hn nx).2.1 (by omega), v1, nI_clamp (by omega), w5]
        have t9 : m2.1 78 v = s.1.2.2.2.1 ((vD s.1 v).2.1 + 1) ∧ m2.1 79 v = s.1.2.2.2.1 (vD s.1 v).2.1 := by
          unfold frm at v3
          rcases w6 with ⟨y, -⟩ | ⟨y, -, -, y1, y2⟩ | ⟨y, -⟩
          · rw [y] at v3; exact absurd v3 (by decide)
          · exact ⟨y1, y2⟩
          · rw [y] at v3; exact absurd v3 (by decide)
        rw [t9.1, t9.2]
        refine ⟨xv, x0, xv, x0, xv, c369j xs d (by omega) q.2.1 (fun m3 o3 e3 => ⟨rfl, ?_, q.2.2.tr e3⟩)⟩
        rw [es, if_neg (fun y => by have := t6.mp y; omega), if_neg (fun y => by have := t33.mp y; omega), if_pos (t32.mpr k), v1, nI_clamp (by omega), ← List.append_assoc]
        exact o3
      · have k := (ik 33 (by omega)).mp z
        rw [V3 (Or.inl k)]
        refine ⟨x0, c369k xs d (by omega) ho (fun m1 o1 e1 => ⟨rfl, ?_, e1⟩)⟩
        rw [es, if_neg (fun y => by have := t6.mp y; omega), if_pos (t33.mpr k)]
        exact o1
      · have k := (ik 34 (by omega)).mp z
        rw [k] at ok
        refine yC.mono (Nat.le_refl _) (fun r m2 q => ⟨q.1, rfl, ?_, q.2.2⟩) (c373 xs (d + 2 * N) hS hW (t34.mpr k) (fun c hcm C m h1 h2 => ih' c hcm (hS.kid hW hn hcm (by omega) (hW.mk ok.2 hcm)) C m h1 h2) h ho)
        rw [es, if_neg (fun y => by have := t6.mp y; omega), if_neg (fun y => by have := t33.mp y; omega), if_neg (fun y => by have := t32.mp y; omega), if_pos (t34.mpr k)]
        exact q.2.1
      · have k := (ik 35 (by omega)).mp z
        rw [k] at ok
        obtain ⟨vt0, ⟨j, hj, ej⟩, a, b, ha, hb, eks⟩ := ok
        obtain ⟨m1, m2, m3, m4, m5⟩ := hW.k2 eks
        have k0 : (kids J.2.2.1 n)[0]? = some (n + 1) := by rw [m1]; rfl
        have k1 : (kids J.2.2.1 n)[1]? = some (n + 1 + szF J.2.2.1 (n + 1)) := by rw [m1]; rfl
        have c1 : n + 1 ∈ kids J.2.2.1 n := List.mem_of_getElem? k0
        have c2 : n + 1 + szF J.2.2.1 (n + 1) ∈ kids J.2.2.1 n := List.mem_of_getElem? k1
        have w1 := hS.kid hW hn c1 (by omega) (by rw [m2]; exact ha)
        have w2 := hS.kid hW hn c2 (by omega) (by rw [m3]; exact hb)
        have l0 : lkI J.2.2.2 (kids J.2.2.1 n)[0]? = nI (J.2.2.2 (n + 1)) := by rw [k0]; rfl
        rw [X6, l0]
        refine yC.mono (by omega) (fun r m2 q => ⟨q.1, hT.x w1.1, ?_⟩) (ih' (n + 1) c1 w1 C m h ho)
        have h2 := h.kf q.2.2
        have l1 : lkI J.2.2.2 (kids J.2.2.1 n)[0 + 1]? = nI (J.2.2.2 (n + 1 + szF J.2.2.1 (n + 1))) := by rw [Nat.zero_add, k1]; rfl
        rw [hT.c w1.1, ((h2.t.2.1 n hn).2.2.2.2.2.2.2.2 0 _ k0).2.2, l1]
        refine yC.mono (by omega) (fun r m3 q3 => ⟨q3.1, ?_⟩) (ih' _ c2 w2 _ m2 h2 q.2.1)
        have h3 := h2.kf q3.2.2
        have e64 : m3.1 64 (J.2.2.2 n) = nI j := by rw [(h3.t.2.1 n hn).2.2.2.1 vt0]; exact ej
        have k65 := c365 xs d h3.t hn hj e64
        rw [((h3.n hn nx).1 hx).1] at k65
        refine y_ci k65 (by omega) (c369k xs d (by omega) q3.2.1 (fun m4 o4 e4 => ⟨rfl, ?_, (q.2.2.tr q3.2.2).tr e4⟩))
        rw [es, if_neg (fun y => by have := t6.mp y; omega), if_neg (fun y => by have := t33.mp y; omega), if_neg (fun y => by have := t32.mp y; omega), if_neg (fun y => by have := t34.mp y; omega), if_pos (t35.mpr k), hY.2 n hn (Or.inl k) kn, ej]
        simpa only [List.append_assoc] using o4
      · have k : kK J.2.2.1 n = 36 := by
          have a6 : ¬ kK J.2.2.1 n = 6 := fun y => z1 ((ik 6 (by omega)).mpr y)
          have a32 : ¬ kK J.2.2.1 n = 32 := fun y => z2 ((ik 32 (by omega)).mpr y)
          have a33 : ¬ kK J.2.2.1 n = 33 := fun y => z3 ((ik 33 (by omega)).mpr y)
          have a34 : ¬ kK J.2.2.1 n = 34 := fun y => z4 ((ik 34 (by omega)).mpr y)
          have a35 : ¬ kK J.2.2.1 n = 35 := fun y => z5 ((ik 35 (by omega)).mpr y)
          exact exK36 hx a6 n30 n31 a32 a33 a34 a35
        rw [k] at ok
        obtain ⟨vt0, -, a, ha, eks⟩ := ok
        obtain ⟨m1, m2, m3, m4⟩ := hW.k1 eks
        have cm : n + 1 ∈ kids J.2.2.1 n := by rw [m1]; exact List.mem_cons_self
        have we := hS.kid hW hn cm (by omega) (by rw [m2]; exact ha)
        have l0 : lkI J.2.2.2 (kids J.2.2.1 n)[0]? = nI (J.2.2.2 (n + 1)) := by rw [m1]; rfl
        rw [X6, l0]
        refine yC.mono (by omega) (fun r m2 q => ⟨q.1, ?_⟩) (ih' (n + 1) cm we C m h ho)
        have h2 := h.kf q.2.2
        have k66 := c366 xs d h2.t hn
        rw [((h2.n hn nx).1 hx).1, (h2.t.2.1 n hn).2.2.2.1 vt0] at k66
        refine y_ci k66 (by omega) (c369k xs d (by omega) q.2.1 (fun m4 o4 e4 => ⟨rfl, ?_, q.2.2.tr e4⟩))
        rw [es, if_neg (fun y => by have := t6.mp y; omega), if_neg (fun y => by have := t33.mp y; omega), if_neg (fun y => by have := t32.mp y; omega), if_neg (fun y => by have := t34.mp y; omega), if_neg (fun y => by have := t35.mp y; omega), if_pos (t36.mpr k), hY.2 n hn (Or.inr k) kn]
        simpa only [List.append_assoc] using o4
    refine w372_0 xs (d + 2 * N + 4) _ m _ ⟨fun z => ⟨x0, ?_⟩, fun z => ⟨rfl, ho.big ?_ _, KF.re m⟩⟩
    · rw [c0, X2, V1b]
      refine ⟨fun y => s43 (fun cn => ?_), fun y => ⟨x0, fun y2 => s43 (fun cn => ?_), fun y2 => ⟨x0, ?_⟩⟩⟩
      · have := (nI_leI (b := 29) (by omega) (by omega)).mp y
        rcases ks with w | ⟨w, w'⟩
        · rcases cn with c | c <;> rw [w] at c
          · have := (nI_eq (b := 30) (by omega) (by omega)).mp c; omega
          · have := (nI_eq (b := 31) (by omega) (by omega)).mp c; omega
        · omega
      · rw [if_pos cn] at y2; exact absurd y2 (by decide)
      · have cn : cnP s.1 n := by
          by_cases c : cnP s.1 n
          · exact c
          · rw [if_neg c] at y2; exact absurd rfl y2
        rw [V1c cn]
        refine c369k xs d (by omega) ho (fun m1 o1 e1 => ⟨rfl, ?_, e1⟩)
        have ne : ∀ q : Int32, ¬ q = 30 → ¬ q = 31 → ¬ s.1.2.2.1 n = q := fun q a b c => by
          rcases cn with w | w
          · exact a (c.symm.trans w)
          · exact b (c.symm.trans w)
        rw [es, if_neg (ne 6 (by decide) (by decide)), if_neg (ne 33 (by decide) (by decide)), if_neg (ne 32 (by decide) (by decide)), if_neg (ne 34 (by decide) (by decide)), if_neg (ne 35 (by decide) (by decide)), if_neg (ne 36 (by decide) (by decide))]
        exact o1
    · rcases Nat.lt_or_ge 3000 C.length with w | w
      · exact w
      · exact absurd (ho.z.mpr w) z
