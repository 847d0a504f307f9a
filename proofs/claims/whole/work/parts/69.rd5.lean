/-! THE READER: expressions, pure -/
def aft (F : List ND) (r : PX) : PX := match r with
  | .inr e => .inr e
  | .inl (t, o, G) => .inl (t, o, F ++ G)
theorem p_bind_aft (t o : Nat) (F : List ND) (k : Nat → Nat → PX) : p_bind (.inl (t, o, F)) k = aft F (k t o) := rfl
theorem aft_nil (r : PX) : aft [] r = r := by rcases r with ⟨t, o, G⟩ | e <;> simp [aft]
theorem aft_aft (F G : List ND) (r : PX) : aft F (aft G r) = aft (F ++ G) r := by rcases r with ⟨t, o, H⟩ | e <;> simp [aft]
def po (r : Option PX) (k : Nat → Nat → Option PX) : Option PX := match r with
  | none => none
  | some (.inr e) => some (.inr e)
  | some (.inl (t, o, G)) => (k t o).map (aft G)
def pnode (k p v : Int32) (vt : Nat) (r : Option PX) : Option PX := r.map (p_node k p v vt)
def pdec (t o : Nat) : Option PX := some (.inl (t, o - 1, []))
def rst (o : Nat) (r : PX) : PX := match r with
  | .inr e => .inr e
  | .inl (t, _, G) => .inl (t, o, G)
/-- a name that is an operand -/
def pNm (m0 : yM) (rc : Nat → Int32 → Nat → List ND → Nat → Nat → Option PX) (t o : Nat) : Option PX :=
  if m0.1 9 (t + 1) = 168 then pnode 34 (m0.1 10 t) (m0.1 11 t) (t + 1) (po (some (p_step m0 t o)) (fun t o => po (some (p_into m0 t o)) (fun t o => po (rc 3 0 0 [] t o) (fun t o => po (some (p_exp m0 169 t o)) pdec))))
  else if m0.1 9 (t + 1) = 174 then pnode 33 (m0.1 10 t) (m0.1 11 t) (t + 1) (po (some (p_step m0 t o)) (fun t o => po (some (p_step m0 t o)) (fun t o => some (p_leaf m0 64 6 (m0.1 11 t) (t + 1) t o))))
  else if m0.1 9 (t + 1) = 219 then pnode 32 (m0.1 10 t) (m0.1 11 t) (t + 1) (po (some (p_step m0 t o)) (fun t o => po (some (p_into m0 t o)) (fun t o => po (rc 1 0 0 [] t o) (fun t o => po (some (p_exp m0 221 t o)) pdec))))
  else pnode 6 (m0.1 10 t) (m0.1 11 t) (t + 1) (some (p_step m0 t o))
/-- one turn: 0 an operand, 1 an expression that binds as close as c, 2 what follows its first operands L, 3 a call's operands -/
def pE (m0 : yM) (rc : Nat → Int32 → Nat → List ND → Nat → Nat → Option PX) (md : Nat) (c : Int32) (q : Nat) (L : List ND) (t o : Nat) : Option PX := match md with
  | 0 => if m0.1 9 t = 34 ∨ m0.1 9 t = 173 then pnode 36 (m0.1 10 t) (if m0.1 9 t = 34 then 1 else 0) 0 (po (some (p_into m0 t o)) (fun t o => po (rc 0 0 0 [] t o) pdec))
    else if m0.1 9 t = 168 then po (some (p_into m0 t o)) (fun t o => po (rc 1 0 0 [] t o) (fun t o => po (some (p_exp m0 169 t o)) pdec))
    else if m0.1 9 t = 65 then some (p_leaf m0 65 30 (m0.1 11 t) 0 t o)
    else if m0.1 9 t = 35 then some (p_leaf m0 35 31 1 0 t o)
    else if m0.1 9 t = 36 then some (p_leaf m0 36 31 0 0 t o)
    else if m0.1 9 t = 64 then pNm m0 rc t o
    else some (p_ref m0 6 t)
  | 1 => match rc 0 0 0 [] t o with
    | none => none
    | some (.inr e) => some (.inr e)
    | some (.inl (t1, o1, G)) => rc 2 c 0 G t1 o1
  | 2 => if 60 < q ∨ clO (opO (m0.1 9 t)) < c then some (.inl (t, o, L)) else match p_into m0 t o with
    | .inr e => some (.inr e)
    | .inl (t1, o1, _) => match rc 1 (clO (opO (m0.1 9 t)) + 1) 0 [] t1 o1 with
      | none => none
      | some (.inr e) => some (.inr e)
      | some (.inl (t2, o2, R)) => rc 2 c (q + 1) ((35, m0.1 10 t, opO (m0.1 9 t), 0, L.length + R.length + 1) :: (L ++ R)) t2 o2
  | 3 => if 8192 ≤ q ∨ m0.1 9 t = 169 then some (.inl (t, o, [])) else po (some (if q = 0 then .inl (t, o, []) else p_exp m0 172 t o)) (fun t o => po (rc 1 0 0 [] t o) (fun t o => rc 3 0 (q + 1) [] t o))
  | _ => none
def pR (m0 : yM) : Nat → Nat → Int32 → Nat → List ND → Nat → Nat → Option PX
  | 0 => fun _ _ _ _ _ _ => none
  | n + 1 => pE m0 (pR m0 n)
theorem po_some {r : Option PX} {k : Nat → Nat → Option PX} {t' o' : Nat} {G : List ND} (h : po r k = some (.inl (t', o', G))) : ∃ t1 o1 G1 G2, r = some (.inl (t1, o1, G1)) ∧ k t1 o1 = some (.inl (t', o', G2)) ∧ G = G1 ++ G2 := by
  unfold po at h
  rcases r with _ | ⟨⟨t1, o1, G1⟩ | e⟩
  · cases h
  · dsimp only at h
    rcases hk : k t1 o1 with _ | ⟨⟨t2, o2, G2⟩ | e⟩
    · rw [hk] at h; cases h
    · rw [hk] at h
      simp only [Option.map_some, aft, Option.some.injEq, Sum.inl.injEq, Prod.mk.injEq] at h
      obtain ⟨rfl, rfl, rfl⟩ := h
      exact ⟨t1, o1, G1, G2, rfl, hk, rfl⟩
    · rw [hk] at h; simp [aft] at h
  · cases h
theorem pnode_some {k p v : Int32} {vt : Nat} {r : Option PX} {t' o' : Nat} {G : List ND} (h : pnode k p v vt r = some (.inl (t', o', G))) : ∃ G1, r = some (.inl (t', o', G1)) ∧ G = (k, p, v, vt, G1.length + 1) :: G1 := by
  unfold pnode at h
  rcases r with _ | ⟨⟨t1, o1, G1⟩ | e⟩
  · cases h
  · simp only [Option.map_some, p_node, Option.some.injEq, Sum.inl.injEq, Prod.mk.injEq] at h
    obtain ⟨rfl, rfl, rfl⟩ := h
    exact ⟨G1, rfl, rfl⟩
  · simp [p_node] at h
theorem p_step_o {m0 : yM} {t o t' o' : Nat} {G : List ND} (h : p_step m0 t o = .inl (t', o', G)) : t' = t + 1 ∧ o' = o ∧ G = [] := by
  unfold p_step at h
  split at h
  · cases h
  · simp only [Sum.inl.injEq, Prod.mk.injEq] at h
    exact ⟨h.1.symm, h.2.1.symm, h.2.2.symm⟩
theorem p_exp_o {m0 : yM} {k : Int32} {t o t' o' : Nat} {G : List ND} (h : p_exp m0 k t o = .inl (t', o', G)) : t' = t + 1 ∧ o' = o ∧ G = [] ∧ m0.1 9 t = k := by
  unfold p_exp at h
  split at h
  · rename_i z
    have := p_step_o h
    exact ⟨this.1, this.2.1, this.2.2, z⟩
  · cases h
theorem p_into_o {m0 : yM} {t o t' o' : Nat} {G : List ND} (h : p_into m0 t o = .inl (t', o', G)) : t' = t + 1 ∧ o' = o + 1 ∧ G = [] ∧ o < 60 := by
  unfold p_into at h
  split at h
  · rename_i z
    have := p_step_o h
    exact ⟨this.1, this.2.1, this.2.2, z⟩
  · cases h
theorem p_node_o {k p v : Int32} {vt : Nat} {r : PX} {t' o' : Nat} {G : List ND} (h : p_node k p v vt r = .inl (t', o', G)) : ∃ G1, r = .inl (t', o', G1) ∧ G = (k, p, v, vt, G1.length + 1) :: G1 := by
  rcases r with ⟨t1, o1, G1⟩ | e
  · simp only [p_node, Sum.inl.injEq, Prod.mk.injEq] at h
    obtain ⟨rfl, rfl, rfl⟩ := h
    exact ⟨G1, rfl, rfl⟩
  · cases h
theorem p_leaf_o {m0 : yM} {tok k v : Int32} {vt t o t' o' : Nat} {G : List ND} (h : p_leaf m0 tok k v vt t o = .inl (t', o', G)) : t' = t + 1 ∧ o' = o := by
  unfold p_leaf at h
  split at h
  · obtain ⟨G1, h1, -⟩ := p_node_o h
    have := p_step_o h1
    exact ⟨this.1, this.2.1⟩
  · cases h
/-- no fewer are open, and tokens go on -/
def moP (m0 : yM) (rc : Nat → Int32 → Nat → List ND → Nat → Nat → Option PX) : Prop := ∀ md c q L t o t' o' G, rc md c q L t o = some (.inl (t', o', G)) → o ≤ o' ∧ t ≤ t'
theorem moN_ {m0 : yM} {rc : Nat → Int32 → Nat → List ND → Nat → Nat → Option PX} (h : moP m0 rc) {t o t' o' : Nat} {G : List ND} (e : pNm m0 rc t o = some (.inl (t', o', G))) : o ≤ o' ∧ t ≤ t' := by
  unfold pNm at e
  split at e
  · obtain ⟨G1, e, -⟩ := pnode_some e
    obtain ⟨t1, o1, _, _, e1, e, -⟩ := po_some e
    obtain ⟨t2, o2, _, _, e2, e, -⟩ := po_some e
    obtain ⟨t3, o3, _, _, e3, e, -⟩ := po_some e
    obtain ⟨t4, o4, _, _, e4, e, -⟩ := po_some e
    have a1 := p_step_o (Option.some.inj e1)
    have a2 := p_into_o (Option.some.inj e2)
    have a3 := h _ _ _ _ _ _ _ _ _ e3
    have a4 := p_exp_o (Option.some.inj e4)
    simp only [pdec, Option.some.injEq, Sum.inl.injEq, Prod.mk.injEq] at e
    omega
  · split at e
    · obtain ⟨G1, e, -⟩ := pnode_some e
      obtain ⟨t1, o1, _, _, e1, e, -⟩ := po_some e
      obtain ⟨t2, o2, _, _, e2, e, -⟩ := po_some e
      have a1 := p_step_o (Option.some.inj e1)
      have a2 := p_step_o (Option.some.inj e2)
      have a3 := p_leaf_o (Option.some.inj e)
      omega
    · split at e
      · obtain ⟨G1, e, -⟩ := pnode_some e
        obtain ⟨t1, o1, _, _, e1, e, -⟩ := po_some e
        obtain ⟨t2, o2, _, _, e2, e, -⟩ := po_some e
        obtain ⟨t3, o3, _, _, e3, e, -⟩ := po_some e
        obtain ⟨t4, o4, _, _, e4, e, -⟩ := po_some e
        have a1 := p_step_o (Option.some.inj e1)
        have a2 := p_into_o (Option.some.inj e2)
        have a3 := h _ _ _ _ _ _ _ _ _ e3
        have a4 := p_exp_o (Option.some.inj e4)
        simp only [pdec, Option.some.injEq, Sum.inl.injEq, Prod.mk.injEq] at e
        omega
      · obtain ⟨G1, e, -⟩ := pnode_some e
        have a1 := p_step_o (Option.some.inj e)
        omega
theorem moE {m0 : yM} {rc : Nat → Int32 → Nat → List ND → Nat → Nat → Option PX} (h : moP m0 rc) : moP m0 (pE m0 rc) := by
  intro md c q L t o t' o' G e
  unfold pE at e
  split at e
  · split at e
    · obtain ⟨G1, e, -⟩ := pnode_some e
      obtain ⟨t1, o1, _, _, e1, e, -⟩ := po_some e
      obtain ⟨t2, o2, _, _, e2, e, -⟩ := po_some e
      have a1 := p_into_o (Option.some.inj e1)
      have a2 := h _ _ _ _ _ _ _ _ _ e2
      simp only [pdec, Option.some.injEq, Sum.inl.injEq, Prod.mk.injEq] at e
      omega
    · split at e
      · obtain ⟨t1, o1, _, _, e1, e, -⟩ := po_some e
        obtain ⟨t2, o2, _, _, e2, e, -⟩ := po_some e
        obtain ⟨t3, o3, _, _, e3, e, -⟩ := po_some e
        have a1 := p_into_o (Option.some.inj e1)
        have a2 := h _ _ _ _ _ _ _ _ _ e2
        have a3 := p_exp_o (Option.some.inj e3)
        simp only [pdec, Option.some.injEq, Sum.inl.injEq, Prod.mk.injEq] at e
        omega
      · split at e
        · have := p_leaf_o (Option.some.inj e); omega
        · split at e
          · have := p_leaf_o (Option.some.inj e); omega
          · split at e
            · have := p_leaf_o (Option.some.inj e); omega
            · split at e
              · exact moN_ h e
              · cases (Option.some.inj e)
  · split at e
    · cases e
    · cases (Option.some.inj e)
    · rename_i t1 o1 G1 e1
      have a1 := h _ _ _ _ _ _ _ _ _ e1
      have a2 := h _ _ _ _ _ _ _ _ _ e
      omega
  · split at e
    · simp only [Option.some.injEq, Sum.inl.injEq, Prod.mk.injEq] at e
      omega
    · split at e
      · cases (Option.some.inj e)
      · rename_i t1 o1 _ e1
        have a1 := p_into_o e1
        split at e
        · cases e
        · cases (Option.some.inj e)
        · rename_i t2 o2 R e2
          have a2 := h _ _ _ _ _ _ _ _ _ e2
          have a3 := h _ _ _ _ _ _ _ _ _ e
          omega
  · split at e
    · simp only [Option.some.injEq, Sum.inl.injEq, Prod.mk.injEq] at e
      omega
    · obtain ⟨t1, o1, _, _, e1, e, -⟩ := po_some e
      obtain ⟨t2, o2, _, _, e2, e, -⟩ := po_some e
      have a2 := h _ _ _ _ _ _ _ _ _ e2
      have a3 := h _ _ _ _ _ _ _ _ _ e
      have a1 : o ≤ o1 ∧ t ≤ t1 := by
        have e1 := Option.some.inj e1
        split at e1
        · simp only [Sum.inl.injEq, Prod.mk.injEq] at e1; omega
        · have := p_exp_o e1; omega
      omega
  · cases e
theorem moR (m0 : yM) : ∀ N, moP m0 (pR m0 N)
  | 0 => fun _ _ _ _ _ _ _ _ _ e => by cases e
  | N + 1 => moE (moR m0 N)
