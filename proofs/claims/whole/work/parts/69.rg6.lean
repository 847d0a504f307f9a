/-! THE READER: statements, pure; bodies of the class -/
def unit_ (t o : Nat) : Option PX := some (.inl (t, o, []))
abbrev SR : Type := Nat → Nat → Nat → Nat → Option PX
def p_else (m0 : yM) (rc : SR) (t o : Nat) : Option PX := if m0.1 9 t = 19 then po (some (p_step m0 t o)) (rc 0 0) else unit_ t o
def p_st (m0 : yM) (N : Nat) (rc : SR) (t o : Nat) : Option PX := if m0.1 9 t = 16 then rc 3 0 t o else if m0.1 9 t = 21 then rc 5 0 t o else if m0.1 9 t = 23 then rc 7 0 t o else if m0.1 9 t = 28 then some (p_leaf m0 28 20 0 0 t o) else if m0.1 9 t = 29 then some (p_leaf m0 29 21 0 0 t o) else if m0.1 9 t = 64 then (if m0.1 9 (t + 1) = 168 then p_inv m0 N t o else p_asgn m0 N t o) else unit_ t o
/-- one turn: 0 a body, 1 its statements, 2 a statement, 3 an IF, 4 its further ways, 5 a CASE, 6 its choices, 7 a FOR -/
def pS (m0 : yM) (N : Nat) (rc : SR) (md q t o : Nat) : Option PX := match md with
  | 0 => pnode 11 (if t = 0 then 0 else m0.1 10 (t - 1)) 0 0 (rc 1 8192 t o)
  | 1 => if q = 0 then unit_ t o else if stS (m0.1 9 t) then po (rc 2 0 t o) (rc 1 (q - 1)) else unit_ t o
  | 2 => po (p_st m0 N rc t o) (fun t o => some (p_exp m0 187 t o))
  | 3 => pnode 15 (m0.1 10 t) 0 0 (po (po (po (po (po (po (po (some (p_into m0 t o)) (exO m0 N)) (fun t o => some (p_exp m0 17 t o))) (rc 0 0)) (rc 4 8192)) (p_else m0 rc)) (fun t o => some (p_exp m0 20 t o))) pdec)
  | 4 => if q = 0 then unit_ t o else if m0.1 9 t = 18 then po (po (po (po (some (p_step m0 t o)) (exO m0 N)) (fun t o => some (p_exp m0 17 t o))) (rc 0 0)) (rc 4 (q - 1)) else unit_ t o
  | 5 => pnode 16 (m0.1 10 t) 0 0 (po (po (po (po (po (po (some (p_into m0 t o)) (exO m0 N)) (fun t o => some (p_exp m0 15 t o))) (rc 6 8192)) (p_else m0 rc)) (fun t o => some (p_exp m0 22 t o))) pdec)
  | 6 => if q = 0 then unit_ t o else if stC (m0.1 9 t) then po (pnode 17 (m0.1 10 t) 0 0 (po (po (some (p_rng m0 8192 t o)) (fun t o => some (p_exp m0 186 t o))) (rc 0 0))) (rc 6 (q - 1)) else unit_ t o
  | 7 => match p_into m0 t o with
    | .inr e => some (.inr e)
    | .inl (t1, o1, _) => pnode 19 (m0.1 10 t) (m0.1 11 t1) (t1 + 1) (po (po (po (some (p_bind (p_bind (p_bind (p_bind (p_bind (p_bind (p_exp m0 64 t1 o1) (p_exp m0 70)) (p_const m0)) (p_exp m0 24)) (p_const m0)) (p_if m0 25 (fun t o => p_bind (p_step m0 t o) (p_const m0)))) (p_exp m0 26))) (rc 0 0)) (fun t o => some (p_exp m0 27 t o))) pdec)
  | _ => none
def pT (m0 : yM) (N : Nat) : Nat → SR
  | 0 => fun _ _ _ _ => none
  | n + 1 => pS m0 N (pT m0 N n)
/-- as many are open behind it as before -/
def eqP (rc : SR) : Prop := ∀ md q t o t' o' G, rc md q t o = some (.inl (t', o', G)) → o' = o
theorem unit_o {t o t' o' : Nat} {G : List ND} (h : unit_ t o = some (.inl (t', o', G))) : o' = o := by
  have h := Option.some.inj h
  simp only [Sum.inl.injEq, Prod.mk.injEq] at h
  omega
theorem p_bind_ex {X : PX} {g : Nat → Nat → PX} {t' o' : Nat} {G : List ND} (h : p_bind X g = .inl (t', o', G)) : ∃ t1 o1 G1 G2, X = .inl (t1, o1, G1) ∧ g t1 o1 = .inl (t', o', G2) := by
  have h2 : po (some X) (fun t o => some (g t o)) = some (.inl (t', o', G)) := by rw [po_t, h]
  obtain ⟨t1, o1, G1, G2, e1, e2, -⟩ := po_some h2
  exact ⟨t1, o1, G1, G2, Option.some.inj e1, Option.some.inj e2⟩
theorem p_const_o {m0 : yM} {t o t' o' : Nat} {G : List ND} (h : p_const m0 t o = .inl (t', o', G)) : o' = o := by
  unfold p_const at h
  split at h
  · obtain ⟨t1, o1, G1, G2, e1, e2⟩ := p_bind_ex h
    have a1 := p_step_o e1
    split at e2
    · obtain ⟨_, e3, -⟩ := p_node_o e2
      have a2 := p_step_o e3
      omega
    · cases e2
  · split at h
    · obtain ⟨_, e3, -⟩ := p_node_o h
      exact (p_step_o e3).2.1
    · split at h
      · obtain ⟨_, e3, -⟩ := p_node_o h
        exact (p_step_o e3).2.1
      · cases h
theorem p_rng_o {m0 : yM} : ∀ {n t o t' o' : Nat} {G : List ND}, p_rng m0 n t o = .inl (t', o', G) → o' = o
  | 0, t, o, t', o', G, h => by
    have h : (Sum.inl (t, o, []) : PX) = .inl (t', o', G) := h
    simp only [Sum.inl.injEq, Prod.mk.injEq] at h
    omega
  | n + 1, t, o, t', o', G, h => by
    have h : p_bind (p_node 18 (m0.1 10 t) 0 0 (p_bind (p_const m0 t o) (p_if m0 71 (fun t o => p_bind (p_step m0 t o) (p_const m0))))) (p_if m0 172 (fun t o => p_bind (p_step m0 t o) (p_rng m0 n))) = .inl (t', o', G) := h
    obtain ⟨t1, o1, _, _, e1, e2⟩ := p_bind_ex h
    obtain ⟨_, e1, -⟩ := p_node_o e1
    obtain ⟨t2, o2, _, _, e3, e4⟩ := p_bind_ex e1
    have a1 := p_const_o e3
    have a2 : o1 = o2 := by
      unfold p_if at e4
      split at e4
      · obtain ⟨t3, o3, _, _, e5, e6⟩ := p_bind_ex e4
        have := p_step_o e5
        have := p_const_o e6
        omega
      · simp only [Sum.inl.injEq, Prod.mk.injEq] at e4; omega
    unfold p_if at e2
    split at e2
    · obtain ⟨t3, o3, _, _, e5, e6⟩ := p_bind_ex e2
      have := p_step_o e5
      have := p_rng_o e6
      omega
    · simp only [Sum.inl.injEq, Prod.mk.injEq] at e2; omega
theorem p_else_o {m0 : yM} {rc : SR} (h : eqP rc) {t o t' o' : Nat} {G : List ND} (e : p_else m0 rc t o = some (.inl (t', o', G))) : o' = o := by
  unfold p_else at e
  split at e
  · obtain ⟨t1, o1, _, _, e1, e2, -⟩ := po_some e
    have := p_step_o (Option.some.inj e1)
    have := h _ _ _ _ _ _ _ e2
    omega
  · exact unit_o e
theorem dec_o {t o t' o' : Nat} {G : List ND} (h : pdec t o = some (.inl (t', o', G))) : o' = o - 1 := by
  simp only [pdec, Option.some.injEq, Sum.inl.injEq, Prod.mk.injEq] at h
  omega
theorem eqS {m0 : yM} {N : Nat} {rc : SR} (h : eqP rc) : eqP (pS m0 N rc) := by
  intro md q t o t' o' G e
  unfold pS at e
  split at e
  · obtain ⟨_, e, -⟩ := pnode_some e
    exact h _ _ _ _ _ _ _ e
  · split at e
    · exact unit_o e
    · split at e
      · obtain ⟨t1, o1, _, _, e1, e2, -⟩ := po_some e
        have := h _ _ _ _ _ _ _ e1
        have := h _ _ _ _ _ _ _ e2
        omega
      · exact unit_o e
  · obtain ⟨t1, o1, _, _, e1, e2, -⟩ := po_some e
    have a2 := p_exp_o (Option.some.inj e2)
    have a1 : o1 = o := by
      unfold p_st at e1
      repeat' split at e1
      all_goals first | exact h _ _ _ _ _ _ _ e1 | exact (p_leaf_o (Option.some.inj e1)).2 | exact p_inv_o e1 | exact p_asgn_o e1 | exact unit_o e1
    omega
  · obtain ⟨_, e, -⟩ := pnode_some e
    obtain ⟨t7, o7, _, _, e, f7, -⟩ := po_some e
    obtain ⟨t6, o6, _, _, e, f6, -⟩ := po_some e
    obtain ⟨t5, o5, _, _, e, f5, -⟩ := po_some e
    obtain ⟨t4, o4, _, _, e, f4, -⟩ := po_some e
    obtain ⟨t3, o3, _, _, e, f3, -⟩ := po_some e
    obtain ⟨t2, o2, _, _, e, f2, -⟩ := po_some e
    obtain ⟨t1, o1, _, _, e, f1, -⟩ := po_some e
    have a0 := p_into_o (Option.some.inj e)
    have a1 := exO_o f1
    have a2 := p_exp_o (Option.some.inj f2)
    have a3 := h _ _ _ _ _ _ _ f3
    have a4 := h _ _ _ _ _ _ _ f4
    have a5 := p_else_o h f5
    have a6 := p_exp_o (Option.some.inj f6)
    have a7 := dec_o f7
    omega
  · split at e
    · exact unit_o e
    · split at e
      · obtain ⟨t4, o4, _, _, e, f4, -⟩ := po_some e
        obtain ⟨t3, o3, _, _, e, f3, -⟩ := po_some e
        obtain ⟨t2, o2, _, _, e, f2, -⟩ := po_some e
        obtain ⟨t1, o1, _, _, e, f1, -⟩ := po_some e
        have a0 := p_step_o (Option.some.inj e)
        have a1 := exO_o f1
        have a2 := p_exp_o (Option.some.inj f2)
        have a3 := h _ _ _ _ _ _ _ f3
        have a4 := h _ _ _ _ _ _ _ f4
        omega
      · exact unit_o e
  · obtain ⟨_, e, -⟩ := pnode_some e
    obtain ⟨t6, o6, _, _, e, f6, -⟩ := po_some e
    obtain ⟨t5, o5, _, _, e, f5, -⟩ := po_some e
    obtain ⟨t4, o4, _, _, e, f4, -⟩ := po_some e
    obtain ⟨t3, o3, _, _, e, f3, -⟩ := po_some e
    obtain ⟨t2, o2, _, _, e, f2, -⟩ := po_some e
    obtain ⟨t1, o1, _, _, e, f1, -⟩ := po_some e
    have a0 := p_into_o (Option.some.inj e)
    have a1 := exO_o f1
    have a2 := p_exp_o (Option.some.inj f2)
    have a3 := h _ _ _ _ _ _ _ f3
    have a4 := p_else_o h f4
    have a5 := p_exp_o (Option.some.inj f5)
    have a6 := dec_o f6
    omega
  · split at e
    · exact unit_o e
    · split at e
      · obtain ⟨t4, o4, _, _, e, f4, -⟩ := po_some e
        obtain ⟨_, e, -⟩ := pnode_some e
        obtain ⟨t3, o3, _, _, e, f3, -⟩ := po_some e
        obtain ⟨t2, o2, _, _, e, f2, -⟩ := po_some e
        have a1 := p_rng_o (Option.some.inj e)
        have a2 := p_exp_o (Option.some.inj f2)
        have a3 := h _ _ _ _ _ _ _ f3
        have a4 := h _ _ _ _ _ _ _ f4
        omega
      · exact unit_o e
  · split at e
    · cases (Option.some.inj e)
    · rename_i t1 o1 _ hi
      have a0 := p_into_o hi
      obtain ⟨_, e, -⟩ := pnode_some e
      obtain ⟨t4, o4, _, _, e, f4, -⟩ := po_some e
      obtain ⟨t3, o3, _, _, e, f3, -⟩ := po_some e
      obtain ⟨t2, o2, _, _, e, f2, -⟩ := po_some e
      obtain ⟨_, _, _, _, g1, g7⟩ := p_bind_ex (Option.some.inj e)
      obtain ⟨_, _, _, _, g2, g6⟩ := p_bind_ex g1
      obtain ⟨_, _, _, _, g3, g5⟩ := p_bind_ex g2
      obtain ⟨_, _, _, _, g4, g8⟩ := p_bind_ex g3
      obtain ⟨_, _, _, _, g9, g10⟩ := p_bind_ex g4
      obtain ⟨_, _, _, _, g11, g12⟩ := p_bind_ex g9
      have b1 := p_exp_o g11
      have b2 := p_exp_o g12
      have b3 := p_const_o g10
      have b4 := p_exp_o g8
      have b5 := p_const_o g5
      have b7 := p_exp_o g7
      have a2 := h _ _ _ _ _ _ _ f2
      have a3 := p_exp_o (Option.some.inj f3)
      have a4 := dec_o f4
      unfold p_if at g6
      split at g6
      · obtain ⟨_, _, _, _, g13, g14⟩ := p_bind_ex g6
        have := p_step_o g13
        have := p_const_o g14
        omega
      · simp only [Sum.inl.injEq, Prod.mk.injEq] at g6
        omega
  · cases e
theorem eqT (m0 : yM) (N : Nat) : ∀ n, eqP (pT m0 N n)
  | 0 => fun _ _ _ _ _ _ _ e => by cases e
  | n + 1 => eqS (eqT m0 N n)
