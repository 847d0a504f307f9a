/-! THE READER: how far it goes, how many nodes it makes: expressions, statements, the text -/
theorem mvo.pp {T t k s b k' s' b' : Nat} {r : Option PX} {f : Nat → Nat → Option PX} (h : mvo T t k s b r) (hf : ∀ t1 o1, mvo T t1 k' s' b' (f t1 o1)) : mvo T t (k + k') (s + s') (b + b') (po r f) := by
  intro X e ht t' o' G hX
  subst hX
  obtain ⟨t1, o1, G1, G2, e1, e2, rfl⟩ := po_some e
  have a := h _ e1 ht t1 o1 G1 rfl
  have b := hf t1 o1 _ e2 a.2.1 t' o' G2 rfl
  rw [List.length_append]
  omega
theorem mvo.node {T t k s b : Nat} {r : Option PX} (h : mvo T t k (s + 1) b r) (a p v : Int32) (vt : Nat) : mvo T t k s b (pnode a p v vt r) := by
  intro X e ht t' o' G hX
  subst hX
  obtain ⟨G1, e1, rfl⟩ := pnode_some e
  have := h _ e1 ht t' o' G1 rfl
  rw [List.length_cons]
  omega
theorem mvo.s {T t k s b : Nat} {X : PX} (h : mv T t k s b X) : mvo T t k s b (some X) := fun Y e => by
  have e := Option.some.inj e
  subst e
  exact h
theorem mvo.u (T t o : Nat) : mvo T t 0 0 0 (unit_ t o) := mvo.s (mv.u T t o)
theorem mvo.dec {T t o : Nat} : mvo T t 0 0 0 (pdec t o) := by
  intro X e ht t' o' G hX
  subst hX
  simp only [pdec, Option.some.injEq, Sum.inl.injEq, Prod.mk.injEq] at e
  obtain ⟨rfl, -, rfl⟩ := e
  simp
  exact ht
theorem mvo.nn {T t k s b : Nat} : mvo T t k s b none := fun _ e => by cases e
abbrev ER : Type := Nat → Int32 → Nat → List ND → Nat → Nat → Option PX
def mvR (T : Nat) (rc : ER) : Prop := (∀ c q L t o, mvo T t 1 1 0 (rc 0 c q L t o)) ∧ (∀ c q L t o, 0 ≤ c → mvo T t 1 1 0 (rc 1 c q L t o)) ∧ (∀ c q L t o, 0 ≤ c → mvo T t 0 0 L.length (rc 2 c q L t o)) ∧ (∀ c q L t o, mvo T t 0 0 0 (rc 3 c q L t o))
theorem mvo.at {T t k s b : Nat} {r : Option PX} (h : t ≤ T → mvo T t k s b r) : mvo T t k s b r := fun X e ht => h ht X e ht
theorem mvNm {m0 : yM} {T : Nat} (hT : TKok m0 T) {rc : ER} (h : mvR T rc) {t o : Nat} (h64 : m0.1 9 t = 64) : mvo T t 1 1 0 (pNm m0 rc t o) := by
  obtain ⟨h0, h1, h2, h3⟩ := h
  have g64 : gk (m0.1 9 t) := by rw [h64]; decide
  unfold pNm
  have st : ∀ k : Int32, gk k → m0.1 9 (t + 1) = k → p_step m0 t o = .inl (t + 1, o, []) := by
    intro k hk z
    unfold p_step
    rw [if_neg (fun y => hk.2.1 (z.symm.trans y))]
  split
  · rename_i z
    refine mvo.node ?_ _ _ _ _
    rw [st 168 (by decide) z, po_inl]
    refine mvo.at (fun ht => ?_)
    have lt := ltT hT ht g64
    have q := mvo.pp (mvo.s (mv.into (o := o) hT (t := t + 1) (by rw [z]; decide))) (fun t1 o1 => mvo.pp (h3 0 0 [] t1 o1) (fun t1 o1 => mvo.pp (mvo.s (mv.exp (m0 := m0) (o := o1) (t := t1) (k := 169) hT (by decide))) (fun t1 o1 => mvo.dec (T := T) (t := t1) (o := o1))))
    intro X e _ t' o' G hX
    have := q X e (by omega) t' o' G hX
    omega
  · split
    · rename_i z
      refine mvo.node ?_ _ _ _ _
      rw [st 174 (by decide) z, po_inl]
      refine mvo.at (fun ht => ?_)
      have lt := ltT hT ht g64
      have q := mvo.pp (mvo.s (mv.step (o := o) hT (t := t + 1) (by rw [z]; decide))) (fun t1 o1 => mvo.s (mv.leaf (m0 := m0) (t := t1) (o := o1) (tok := 64) (k := 6) (v := m0.1 11 t1) (vt := t1 + 1) hT (by decide)))
      intro X e _ t' o' G hX
      have := q X e (by omega) t' o' G hX
      omega
    · split
      · rename_i z
        refine mvo.node ?_ _ _ _ _
        rw [st 219 (by decide) z, po_inl]
        refine mvo.at (fun ht => ?_)
        have lt := ltT hT ht g64
        have q := mvo.pp (mvo.s (mv.into (o := o) hT (t := t + 1) (by rw [z]; decide))) (fun t1 o1 => mvo.pp (h1 0 0 [] t1 o1 (by decide)) (fun t1 o1 => mvo.pp (mvo.s (mv.exp (m0 := m0) (o := o1) (t := t1) (k := 221) hT (by decide))) (fun t1 o1 => mvo.dec (T := T) (t := t1) (o := o1))))
        intro X e _ t' o' G hX
        have := q X e (by omega) t' o' G hX
        omega
      · refine mvo.node ?_ _ _ _ _
        exact mvo.s (mv.step hT g64)
theorem cl_s {x : Int32} (h : ¬ clO (opO x) < 0) : 0 ≤ clO (opO x) + 1 := by
  have u1 := Int32.le_iff_toInt_le.mp (cl_le x)
  have u2 := Int32.le_iff_toInt_le.mp (Int32.not_lt.mp h)
  rw [Int32.le_iff_toInt_le, Int32.toInt_add]
  have e0 : (0 : Int32).toInt = 0 := by decide
  have e1 : (1 : Int32).toInt = 1 := by decide
  have e6 : (6 : Int32).toInt = 6 := by decide
  rw [e0] at u2 ⊢
  rw [e1]
  rw [e6] at u1
  rw [Int.bmod_eq_of_le (by omega) (by omega)]
  omega
theorem mvE {m0 : yM} {T : Nat} (hT : TKok m0 T) {rc : ER} (h : mvR T rc) : mvR T (pE m0 rc) := by
  have hh := h
  obtain ⟨h0, h1, h2, h3⟩ := h
  refine ⟨fun c q L t o => ?_, fun c q L t o hc => ?_, fun c q L t o hc => ?_, fun c q L t o => ?_⟩
  · show mvo T t 1 1 0 (if m0.1 9 t = 34 ∨ m0.1 9 t = 173 then _ else if m0.1 9 t = 168 then _ else if m0.1 9 t = 65 then _ else if m0.1 9 t = 35 then _ else if m0.1 9 t = 36 then _ else if m0.1 9 t = 64 then _ else _)
    split
    · rename_i z
      refine mvo.node ?_ _ _ _ _
      exact mvo.w (mvo.pp (mvo.s (mv.into hT (by rcases z with z | z <;> rw [z] <;> decide))) (fun t1 o1 => mvo.pp (h0 0 0 [] t1 o1) (fun t1 o1 => mvo.dec)))
    · split
      · rename_i z
        exact mvo.w (mvo.pp (mvo.s (mv.into hT (by rw [z]; decide))) (fun t1 o1 => mvo.pp (h1 0 0 [] t1 o1 (by decide)) (fun t1 o1 => mvo.pp (mvo.s (mv.exp (m0 := m0) (o := o1) (t := t1) (k := 169) hT (by decide))) (fun t1 o1 => mvo.dec (T := T) (t := t1) (o := o1)))))
      · split
        · exact mvo.s (mv.leaf hT (by decide))
        · split
          · exact mvo.s (mv.leaf hT (by decide))
          · split
            · exact mvo.s (mv.leaf hT (by decide))
            · split
              · rename_i z
                exact mvNm hT hh z
              · exact mvo.s (mv.e _ _ _ _ _ _)
  · show mvo T t 1 1 0 (match rc 0 0 0 [] t o with | none => none | some (.inr e) => some (.inr e) | some (.inl (t1, o1, G)) => rc 2 c 0 G t1 o1)
    intro X e ht t' o' G hX
    rcases hr : rc 0 0 0 [] t o with _ | ⟨⟨t1, o1, G1⟩ | e1⟩
    · rw [hr] at e; cases e
    · rw [hr] at e
      have a := h0 0 0 [] t o _ hr ht t1 o1 G1 rfl
      have b := h2 c 0 G1 t1 o1 hc X e a.2.1 t' o' G hX
      omega
    · rw [hr] at e
      have e := Option.some.inj e
      subst e
      cases hX
  · show mvo T t 0 0 L.length (if 60 < q ∨ clO (opO (m0.1 9 t)) < c then some (.inl (t, o, L)) else match p_into m0 t o with | .inr e => some (.inr e) | .inl (t1, o1, _) => match rc 1 (clO (opO (m0.1 9 t)) + 1) 0 [] t1 o1 with | none => none | some (.inr e) => some (.inr e) | some (.inl (t2, o2, R)) => rc 2 c (q + 1) ((35, m0.1 10 t, opO (m0.1 9 t), 0, L.length + R.length + 1) :: (L ++ R)) t2 o2)
    split
    · intro X e ht t' o' G hX
      subst hX
      simp only [Option.some.injEq, Sum.inl.injEq, Prod.mk.injEq] at e
      obtain ⟨rfl, -, rfl⟩ := e
      omega
    · rename_i z
      intro X e ht t' o' G hX
      rcases hi : p_into m0 t o with ⟨t1, o1, G1⟩ | e1
      · rw [hi] at e
        dsimp only at e
        have p1 := p_into_o hi
        rcases hr : rc 1 (clO (opO (m0.1 9 t)) + 1) 0 [] t1 o1 with _ | ⟨⟨t2, o2, R⟩ | e2⟩
        · rw [hr] at e; cases e
        · rw [hr] at e
          dsimp only at e
          have nc : ¬ clO (opO (m0.1 9 t)) < 0 := fun w => z (Or.inr (Int32.lt_of_lt_of_le w hc))
          have lt := ltT hT ht (cl_lt nc)
          have a := h1 _ 0 [] t1 o1 (cl_s nc) _ hr (by omega) t2 o2 R rfl
          have b := h2 c (q + 1) _ t2 o2 hc X e a.2.1 t' o' G hX
          simp only [List.length_cons, List.length_append] at b
          omega
        · rw [hr] at e
          have e := Option.some.inj e
          subst e
          cases hX
      · rw [hi] at e
        have e := Option.some.inj e
        subst e
        cases hX
  · show mvo T t 0 0 0 (if 8192 ≤ q ∨ m0.1 9 t = 169 then some (.inl (t, o, [])) else po (some (if q = 0 then .inl (t, o, []) else p_exp m0 172 t o)) (fun t o => po (rc 1 0 0 [] t o) (fun t o => rc 3 0 (q + 1) [] t o)))
    split
    · exact mvo.u T t o
    · refine mvo.w (mvo.pp (k := 0) (s := 0) (b := 0) (mvo.s ?_) (fun t1 o1 => mvo.pp (h1 0 0 [] t1 o1 (by decide)) (fun t1 o1 => h3 0 (q + 1) [] t1 o1)))
      split
      · exact mv.u T t o
      · exact mv.w (mv.exp hT (by decide))
theorem mvRR {m0 : yM} {T : Nat} (hT : TKok m0 T) : ∀ N, mvR T (pR m0 N)
  | 0 => ⟨fun _ _ _ _ _ => mvo.nn, fun _ _ _ _ _ _ => mvo.nn, fun _ _ _ _ _ _ => mvo.nn, fun _ _ _ _ _ => mvo.nn⟩
  | N + 1 => mvE hT (mvRR hT N)
theorem mvo.ex {m0 : yM} {T N t o : Nat} (hT : TKok m0 T) : mvo T t 1 1 0 (exO m0 N t o) := by
  intro X e ht t' o' G hX
  unfold exO at e
  rcases hr : pR m0 N 1 0 0 [] t o with _ | ⟨⟨t1, o1, G1⟩ | e1⟩
  · rw [hr] at e; cases e
  · rw [hr] at e
    subst hX
    simp only [Option.map_some, rst, Option.some.injEq, Sum.inl.injEq, Prod.mk.injEq] at e
    have := (mvRR hT N).2.1 0 0 [] t o (by decide) _ hr ht t1 o1 G1 rfl
    obtain ⟨rfl, -, rfl⟩ := e
    omega
  · rw [hr] at e
    have e := Option.some.inj e
    subst e
    cases hX
theorem mvo.tgt {m0 : yM} {T N t o : Nat} (hT : TKok m0 T) (h64 : m0.1 9 t = 64) : mvo T t 1 1 0 (p_tgt m0 N t o) := by
  have g64 : gk (m0.1 9 t) := by rw [h64]; decide
  unfold p_tgt
  split
  · rename_i z
    refine mvo.node ?_ _ _ _ _
    have st : p_step m0 t o = .inl (t + 1, o, []) := by unfold p_step; rw [if_neg (fun y => absurd (z.symm.trans y) (by decide))]
    rw [st, po_inl]
    refine mvo.at (fun ht => ?_)
    have lt := ltT hT ht g64
    have q := mvo.pp (mvo.s (mv.into (o := o) hT (t := t + 1) (by rw [z]; decide))) (fun t1 o1 => mvo.pp (mvo.ex (N := N) (t := t1) (o := o1) hT) (fun t1 o1 => mvo.pp (mvo.s (mv.exp (m0 := m0) (o := o1) (t := t1) (k := 221) hT (by decide))) (fun t1 o1 => mvo.dec (T := T) (t := t1) (o := o1))))
    intro X e _ t' o' G hX
    have := q X e (by omega) t' o' G hX
    omega
  · exact mvo.s (mv.leaf hT (by decide))
theorem mvo.asgn {m0 : yM} {T N t o : Nat} (hT : TKok m0 T) (h64 : m0.1 9 t = 64) : mvo T t 1 1 0 (p_asgn m0 N t o) := by
  intro X e ht t' o' G hX
  unfold p_asgn at e
  rcases hr : p_tgt m0 N t o with _ | ⟨⟨t1, o1, G1⟩ | e1⟩
  · rw [hr] at e; cases e
  · rw [hr] at e
    dsimp only at e
    have a := mvo.tgt hT h64 _ hr ht t1 o1 G1 rfl
    subst hX
    obtain ⟨G2, e2, rfl⟩ := pnode_some e
    rcases hz : po (some (p_exp m0 70 t1 o1)) (exO m0 N) with _ | ⟨⟨t2, o2, G3⟩ | e3⟩
    · rw [hz] at e2; cases e2
    · rw [hz] at e2
      simp only [Option.map_some, aft, Option.some.injEq, Sum.inl.injEq, Prod.mk.injEq] at e2
      obtain ⟨rfl, -, rfl⟩ := e2
      have b := mvo.pp (mvo.s (mv.exp (k := 70) (o := o1) hT (by decide))) (fun t1 o1 => mvo.ex (N := N) (t := t1) (o := o1) hT) _ hz a.2.1 _ _ _ rfl
      simp only [List.length_cons, List.length_append]
      omega
    · rw [hz] at e2; simp [aft] at e2
  · rw [hr] at e
    have e := Option.some.inj e
    subst e
    cases hX
theorem mvo.par1 {m0 : yM} {T N t o : Nat} (hT : TKok m0 T) : mvo T t 1 1 0 (p_par1 m0 N t o) := by
  unfold p_par1
  refine mvo.node ?_ _ _ _ _
  exact mvo.w (mvo.pp (mvo.s (mv.exp hT (by decide))) (fun t1 o1 => mvo.pp (mvo.s (mv.exp (m0 := m0) (o := o1) (t := t1) (k := 70) hT (by decide))) (fun t1 o1 => mvo.ex (N := N) (t := t1) (o := o1) hT)))
theorem mvo.par {m0 : yM} {T N : Nat} (hT : TKok m0 T) : ∀ n t o, mvo T t 0 0 0 (p_par m0 N n t o)
  | 0, t, o => mvo.u T t o
  | n + 1, t, o => by
    show mvo T t 0 0 0 (if m0.1 9 t = 169 then some (.inl (t, o, [])) else po (some (if n + 1 = 8192 then .inl (t, o, []) else p_exp m0 172 t o)) (fun t o => po (p_par1 m0 N t o) (p_par m0 N n)))
    split
    · exact mvo.u T t o
    · refine mvo.w (mvo.pp (k := 0) (s := 0) (b := 0) (mvo.s ?_) (fun t1 o1 => mvo.pp (mvo.par1 (N := N) (t := t1) (o := o1) hT) (fun t1 o1 => mvo.par hT n t1 o1)))
      split
      · exact mv.u T t o
      · exact mv.w (mv.exp hT (by decide))
theorem mvo.inv {m0 : yM} {T N t o : Nat} (hT : TKok m0 T) (h64 : m0.1 9 t = 64) (z : m0.1 9 (t + 1) = 168) : mvo T t 1 1 0 (p_inv m0 N t o) := by
  have g64 : gk (m0.1 9 t) := by rw [h64]; decide
  unfold p_inv
  refine mvo.node ?_ _ _ _ _
  have st : p_step m0 t o = .inl (t + 1, o, []) := by unfold p_step; rw [if_neg (fun y => absurd (z.symm.trans y) (by decide))]
  rw [st, po_inl]
  refine mvo.at (fun ht => ?_)
  have lt := ltT hT ht g64
  have q := mvo.pp (mvo.s (mv.into (o := o) hT (t := t + 1) (by rw [z]; decide))) (fun t1 o1 => mvo.pp (mvo.par (N := N) hT 8192 t1 o1) (fun t1 o1 => mvo.pp (mvo.s (mv.exp (m0 := m0) (o := o1) (t := t1) (k := 169) hT (by decide))) (fun t1 o1 => mvo.dec (T := T) (t := t1) (o := o1))))
  intro X e _ t' o' G hX
  have := q X e (by omega) t' o' G hX
  omega
/-- modes: 0 a body (one node more), 1 statements, 2 a statement that starts one, 3 IF, 5 CASE, 7 FOR -/
def mvS (m0 : yM) (T : Nat) (rc : SR) : Prop := (∀ t o, mvo T t 0 0 1 (rc 0 0 t o)) ∧ (∀ q t o, mvo T t 0 0 0 (rc 1 q t o)) ∧ (∀ t o, mvo T t 1 2 0 (rc 2 0 t o)) ∧ (∀ t o, m0.1 9 t = 16 → mvo T t 1 1 0 (rc 3 0 t o)) ∧ (∀ q t o, mvo T t 0 0 0 (rc 4 q t o)) ∧ (∀ t o, m0.1 9 t = 21 → mvo T t 1 1 0 (rc 5 0 t o)) ∧ (∀ q t o, mvo T t 0 0 0 (rc 6 q t o)) ∧ (∀ t o, m0.1 9 t = 23 → mvo T t 1 1 0 (rc 7 0 t o))
theorem mvSs {m0 : yM} {T N : Nat} (hT : TKok m0 T) {rc : SR} (h : mvS m0 T rc) : mvS m0 T (pS m0 N rc) := by
  obtain ⟨h0, h1, h2, h3, h4, h5, h6, h7⟩ := h
  have els : ∀ t o, mvo T t 0 0 0 (p_else m0 rc t o) := by
    intro t o
    unfold p_else
    split
    · rename_i z
      exact mvo.w (mvo.pp (mvo.s (mv.step hT (by rw [z]; decide))) (fun t1 o1 => h0 t1 o1))
    · exact mvo.u T t o
  have ex : ∀ (k : Int32), gk k → ∀ t1 o1, mvo T t1 1 2 0 (some (p_exp m0 k t1 o1)) := fun k hk t1 o1 => mvo.s (mv.exp hT hk)
  refine ⟨fun t o => ?_, fun q t o => ?_, fun t o => ?_, fun t o z => ?_, fun q t o => ?_, fun t o z => ?_, fun q t o => ?_, fun t o z => ?_⟩
  · show mvo T t 0 0 1 (pnode 11 _ 0 0 (rc 1 8192 t o))
    exact mvo.node (mvo.w (h1 8192 t o)) _ _ _ _
  · show mvo T t 0 0 0 (if q = 0 then unit_ t o else if stS (m0.1 9 t) then po (rc 2 0 t o) (rc 1 (q - 1)) else unit_ t o)
    split
    · exact mvo.u T t o
    · split
      · exact mvo.w (mvo.pp (h2 t o) (fun t1 o1 => h1 (q - 1) t1 o1))
      · exact mvo.u T t o
  · show mvo T t 1 2 0 (po (p_st m0 N rc t o) (fun t o => some (p_exp m0 187 t o)))
    refine mvo.w (mvo.pp (k := 0) (s := 0) (b := 0) ?_ (ex 187 (by decide)))
    unfold p_st
    split
    · rename_i z
      exact mvo.w (h3 t o z)
    · split
      · rename_i z
        exact mvo.w (h5 t o z)
      · split
        · rename_i z
          exact mvo.w (h7 t o z)
        · split
          · exact mvo.w (mvo.s (mv.leaf hT (by decide)))
          · split
            · exact mvo.w (mvo.s (mv.leaf hT (by decide)))
            · split
              · rename_i z
                split
                · rename_i y
                  exact mvo.w (mvo.inv hT z y)
                · exact mvo.w (mvo.asgn hT z)
              · exact mvo.u T t o
  · show mvo T t 1 1 0 (pnode 15 _ 0 0 _)
    refine mvo.node ?_ _ _ _ _
    exact mvo.w (mvo.pp (mvo.pp (mvo.pp (mvo.pp (mvo.pp (mvo.pp (mvo.pp (mvo.s (mv.into hT (by rw [z]; decide))) (fun t1 o1 => mvo.ex (N := N) hT)) (ex 17 (by decide))) (fun t1 o1 => h0 t1 o1)) (fun t1 o1 => h4 8192 t1 o1)) els) (ex 20 (by decide))) (fun t1 o1 => mvo.dec))
  · show mvo T t 0 0 0 (if q = 0 then unit_ t o else if m0.1 9 t = 18 then _ else unit_ t o)
    split
    · exact mvo.u T t o
    · split
      · rename_i z
        exact mvo.w (mvo.pp (mvo.pp (mvo.pp (mvo.pp (mvo.s (mv.step hT (by rw [z]; decide))) (fun t1 o1 => mvo.ex (N := N) hT)) (ex 17 (by decide))) (fun t1 o1 => h0 t1 o1)) (fun t1 o1 => h4 (q - 1) t1 o1))
      · exact mvo.u T t o
  · show mvo T t 1 1 0 (pnode 16 _ 0 0 _)
    refine mvo.node ?_ _ _ _ _
    exact mvo.w (mvo.pp (mvo.pp (mvo.pp (mvo.pp (mvo.pp (mvo.pp (mvo.s (mv.into hT (by rw [z]; decide))) (fun t1 o1 => mvo.ex (N := N) hT)) (ex 15 (by decide))) (fun t1 o1 => h6 8192 t1 o1)) els) (ex 22 (by decide))) (fun t1 o1 => mvo.dec))
  · show mvo T t 0 0 0 (if q = 0 then unit_ t o else if stC (m0.1 9 t) then _ else unit_ t o)
    split
    · exact mvo.u T t o
    · split
      · refine mvo.w (mvo.pp (k := 0) (s := 0) (b := 0) (mvo.node ?_ _ _ _ _) (fun t1 o1 => h6 (q - 1) t1 o1))
        exact mvo.w (mvo.pp (mvo.pp (mvo.s (mv.rng hT 8192 t o).1) (ex 186 (by decide))) (fun t1 o1 => h0 t1 o1))
      · exact mvo.u T t o
  · show mvo T t 1 1 0 (match p_into m0 t o with | .inr e => some (.inr e) | .inl (t1, o1, _) => _)
    intro X e ht t' o' G hX
    rcases hi : p_into m0 t o with ⟨t1, o1, G1⟩ | e1
    · rw [hi] at e
      dsimp only at e
      have p1 := p_into_o hi
      have lt := ltT hT ht (by rw [z]; decide)
      have q : mvo T t1 1 1 0 (some X) := by
        rw [← e]
        refine mvo.node ?_ _ _ _ _
        exact mvo.w (mvo.pp (mvo.pp (mvo.pp (mvo.s (((((((mv.exp hT (by decide)).bind (fun _ _ => mv.exp hT (by decide))).bind (fun _ _ => mv.const hT)).bind (fun _ _ => mv.exp hT (by decide))).bind (fun _ _ => mv.const hT)).bind (fun _ _ => mv.pif (k := 1) (fun z => mv.w ((mv.step hT (by rw [z]; decide)).bind (fun _ _ => mv.const hT))))).bind (fun _ _ => mv.exp hT (by decide)))) (fun t1 o1 => h0 t1 o1)) (ex 27 (by decide))) (fun t1 o1 => mvo.dec))
      have := q X rfl (by omega) t' o' G hX
      omega
    · rw [hi] at e
      have e := Option.some.inj e
      subst e
      cases hX
theorem mvT {m0 : yM} {T N : Nat} (hT : TKok m0 T) : ∀ n, mvS m0 T (pT m0 N n)
  | 0 => ⟨fun _ _ => mvo.nn, fun _ _ _ => mvo.nn, fun _ _ => mvo.nn, fun _ _ _ => mvo.nn, fun _ _ _ => mvo.nn, fun _ _ _ => mvo.nn, fun _ _ _ => mvo.nn, fun _ _ _ => mvo.nn⟩
  | n + 1 => mvSs hT (mvT hT n)
theorem mvo.bdy {m0 : yM} {T N n t o : Nat} (hT : TKok m0 T) : mvo T t 0 0 1 (p_bdy m0 N n t o) := by
  unfold p_bdy
  split
  · rename_i z
    exact mvo.w (mvo.s (mv.lad hT (by rw [z]; decide)))
  · exact (mvT hT n).1 t o
theorem mvo.blk {m0 : yM} {T N n t o : Nat} (hT : TKok m0 T) (hw : bkW (m0.1 9 t)) : mvo T t 1 1 0 (p_blk m0 N n t o) := by
  intro X e ht t' o' G hX
  unfold p_blk at e
  rcases hi : p_step m0 t o with ⟨t1, o1, G1⟩ | e1
  · rw [hi] at e
    dsimp only at e
    have p1 := p_step_o hi
    have lt := ltT hT ht (bkW_gk hw).1
    have q : mvo T t1 0 0 0 (some X) := by
      rw [← e]
      refine mvo.node ?_ _ _ _ _
      exact mvo.w (mvo.pp (mvo.pp (mvo.s (((mv.exp hT (by decide)).bind (fun _ _ => mv.hd hT _)).bind (fun t1 o1 => mv.sects hT 8192 t1 o1))) (fun t1 o1 => mvo.bdy hT)) (fun t1 o1 => mvo.s (mv.exp hT (bkW_gk hw).2)))
    have := q X rfl (by omega) t' o' G hX
    omega
  · rw [hi] at e
    have e := Option.some.inj e
    subst e
    cases hX
theorem mvo.blks {m0 : yM} {T N n : Nat} (hT : TKok m0 T) : ∀ q t o, mvo T t 0 0 0 (p_blks m0 N n q t o)
  | 0, t, o => mvo.u T t o
  | q + 1, t, o => by
    show mvo T t 0 0 0 (if bkW (m0.1 9 t) then po (p_blk m0 N n t o) (p_blks m0 N n q) else unit_ t o)
    split
    · rename_i z
      exact mvo.w (mvo.pp (mvo.blk hT z) (fun t1 o1 => mvo.blks hT q t1 o1))
    · exact mvo.u T t o
/-- the whole text makes few nodes -/
theorem p_text_len {m0 : yM} {T N n t o : Nat} {F : List ND} (hT : TKok m0 T) (e : p_text m0 N n = some (.inl (t, o, F))) : F.length ≤ 16400 ∧ t ≤ T := by
  unfold p_text at e
  obtain ⟨G, e1, rfl⟩ := pnode_some e
  have hb : mvo T 0 0 0 0 (some (p_beg m0)) := by
    unfold p_beg
    split
    · exact mvo.s (mv.e _ _ _ _ _ _)
    · exact mvo.u T 0 0
  have he : ∀ t1 o1, mvo T t1 0 0 0 (some (p_end m0 t1 o1)) := by
    intro t1 o1
    unfold p_end
    split
    · exact mvo.u T t1 o1
    · exact mvo.s (mv.e _ _ _ _ _ _)
  have := mvo.pp (mvo.pp hb (fun t1 o1 => mvo.blks (N := N) (n := n) hT 8192 t1 o1)) he _ e1 (Nat.zero_le _) t o G rfl
  have hT1 := hT.1
  rw [List.length_cons]
  omega
