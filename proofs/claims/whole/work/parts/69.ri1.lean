/-! THE READER: how far it goes, how many nodes it makes -/
theorem ltT {m0 : yM} {T t : Nat} (hT : TKok m0 T) (ht : t ≤ T) (hk : gk (m0.1 9 t)) : t < T := by
  rcases Nat.lt_or_ge t T with z | z
  · exact z
  · have eT : t = T := by omega
    rw [eT] at hk
    rcases hT.2.1 with y | y
    · exact absurd y hk.1
    · exact absurd y.1 hk.2.1
def mv (T t k s b : Nat) (X : PX) : Prop := t ≤ T → ∀ t' o' G, X = .inl (t', o', G) → t + k ≤ t' ∧ t' ≤ T ∧ G.length + 2 * t + s ≤ 2 * t' + b
def mvo (T t k s b : Nat) (r : Option PX) : Prop := ∀ X, r = some X → mv T t k s b X
theorem mv.w {T t k s b k' s' b' : Nat} {X : PX} (h : mv T t k s b X) (h1 : k' ≤ k := by omega) (h2 : s' + b ≤ s + b' := by omega) : mv T t k' s' b' X := by
  intro ht t' o' G e
  have := h ht t' o' G e
  omega
theorem mvo.w {T t k s b k' s' b' : Nat} {X : Option PX} (h : mvo T t k s b X) (h1 : k' ≤ k := by omega) (h2 : s' + b ≤ s + b' := by omega) : mvo T t k' s' b' X := fun Y e => (h Y e).w h1 h2
theorem mv.bind {T t k s b k' s' b' : Nat} {X : PX} {f : Nat → Nat → PX} (h : mv T t k s b X) (hf : ∀ t1 o1, mv T t1 k' s' b' (f t1 o1)) : mv T t (k + k') (s + s') (b + b') (p_bind X f) := by
  intro ht t' o' G e
  have h2 : po (some X) (fun t o => some (f t o)) = some (.inl (t', o', G)) := by rw [po_t, e]
  obtain ⟨t1, o1, G1, G2, e1, e2, rfl⟩ := po_some h2
  have a := h ht t1 o1 G1 (Option.some.inj e1)
  have b := hf t1 o1 a.2.1 t' o' G2 (Option.some.inj e2)
  rw [List.length_append]
  omega
theorem mv.node {T t k s b : Nat} {X : PX} (h : mv T t k (s + 1) b X) (a p v : Int32) (vt : Nat) : mv T t k s b (p_node a p v vt X) := by
  intro ht t' o' G e
  obtain ⟨G1, e1, rfl⟩ := p_node_o e
  have := h ht t' o' G1 e1
  rw [List.length_cons]
  omega
theorem mv.u (T t o : Nat) : mv T t 0 0 0 (.inl (t, o, [])) := by
  intro ht t' o' G e
  simp only [Sum.inl.injEq, Prod.mk.injEq] at e
  obtain ⟨rfl, -, rfl⟩ := e
  simp
  exact ht
theorem mv.e (T t k s b : Nat) (e : Int32 × Int32) : mv T t k s b (.inr e) := fun _ _ _ _ h => by cases h
theorem mv.step {m0 : yM} {T t o : Nat} (hT : TKok m0 T) (hk : gk (m0.1 9 t)) : mv T t 1 2 0 (p_step m0 t o) := by
  intro ht t' o' G e
  have := p_step_o e
  have := ltT hT ht hk
  obtain ⟨rfl, -, rfl⟩ := p_step_o e
  simp
  omega
theorem mv.into {m0 : yM} {T t o : Nat} (hT : TKok m0 T) (hk : gk (m0.1 9 t)) : mv T t 1 2 0 (p_into m0 t o) := by
  unfold p_into
  split
  · exact mv.step hT hk
  · exact mv.e _ _ _ _ _ _
theorem mv.exp {m0 : yM} {T t o : Nat} {k : Int32} (hT : TKok m0 T) (hk : gk k) : mv T t 1 2 0 (p_exp m0 k t o) := by
  unfold p_exp
  split
  · rename_i z
    exact mv.step hT (by rw [z]; exact hk)
  · exact mv.e _ _ _ _ _ _
theorem mv.leaf {m0 : yM} {T t o : Nat} {tok k v : Int32} {vt : Nat} (hT : TKok m0 T) (hk : gk tok) : mv T t 1 1 0 (p_leaf m0 tok k v vt t o) := by
  unfold p_leaf
  split
  · rename_i z
    exact (mv.step hT (by rw [z]; exact hk)).node _ _ _ _
  · exact mv.e _ _ _ _ _ _
theorem mv.simple {m0 : yM} {T t o : Nat} (hT : TKok m0 T) : mv T t 1 1 0 (p_simple m0 t o) := by
  unfold p_simple
  split
  · exact mv.e _ _ _ _ _ _
  · rename_i z
    refine mv.node (mv.step hT (gk_of (fun w => z (Or.inr (Int32.lt_trans (by decide) w))))) _ _ _ _
theorem mv.const {m0 : yM} {T t o : Nat} (hT : TKok m0 T) : mv T t 1 1 0 (p_const m0 t o) := by
  unfold p_const
  split
  · rename_i z
    refine mv.w (mv.bind (mv.step hT (by rw [z]; decide)) (k' := 1) (s' := 1) (b' := 0) (fun t1 o1 => ?_))
    split
    · rename_i z
      exact mv.node (mv.step hT (by rw [z]; decide)) _ _ _ _
    · exact mv.e _ _ _ _ _ _
  · split
    · rename_i z
      exact mv.node (mv.step hT (by rw [z]; decide)) _ _ _ _
    · split
      · rename_i z
        refine mv.node (mv.step hT ?_) _ _ _ _
        rcases z with z | z <;> rw [z] <;> decide
      · exact mv.e _ _ _ _ _ _
theorem mv.type {m0 : yM} {T t o : Nat} (hT : TKok m0 T) : mv T t 1 1 0 (p_type m0 t o) := by
  unfold p_type
  split
  · rename_i z
    refine mv.node ?_ _ _ _ _
    exact mv.w (((((((mv.step hT (by rw [z]; decide)).bind (fun _ _ => mv.exp hT (by decide))).bind (fun _ _ => mv.const hT)).bind (fun _ _ => mv.exp hT (by decide))).bind (fun _ _ => mv.const hT)).bind (fun _ _ => mv.exp hT (by decide))).bind (fun _ _ => mv.exp hT (by decide)) |>.bind (fun _ _ => mv.simple hT))
  · split
    · exact mv.leaf hT (by decide)
    · exact mv.simple hT
theorem mv.names {m0 : yM} {T : Nat} (hT : TKok m0 T) : ∀ n t o, mv T t 0 0 0 (p_names m0 n t o)
  | 0, t, o => mv.u T t o
  | n + 1, t, o => by
    show mv T t 0 0 0 (if m0.1 9 t = 172 then p_bind (p_bind (p_step m0 t o) (fun t o => p_leaf m0 64 6 (m0.1 11 t) (t + 1) t o)) (p_names m0 n) else .inl (t, o, []))
    split
    · rename_i z
      exact mv.w (((mv.step hT (by rw [z]; decide)).bind (fun _ _ => mv.leaf hT (by decide))).bind (fun t1 o1 => mv.names hT n t1 o1))
    · exact mv.u T t o
theorem mv.at {m0 : yM} {T t o : Nat} (hT : TKok m0 T) : mv T t 0 0 0 (p_at m0 t o) := by
  unfold p_at
  split
  · rename_i z
    exact mv.w ((mv.step hT (by rw [z]; decide)).bind (fun _ _ => mv.leaf hT (by decide)))
  · exact mv.u T t o
theorem mv.init {m0 : yM} {T t o : Nat} (hT : TKok m0 T) : mv T t 0 0 0 (p_init m0 t o) := by
  unfold p_init
  split
  · rename_i z
    exact mv.w ((mv.step hT (by rw [z]; decide)).bind (fun _ _ => mv.const hT))
  · exact mv.u T t o
theorem mv.decl {m0 : yM} {T t o : Nat} (hT : TKok m0 T) : mv T t 1 1 0 (p_decl m0 t o) := by
  unfold p_decl
  refine mv.node ?_ _ _ _ _
  exact mv.w (((((((mv.leaf hT (by decide)).bind (fun t1 o1 => mv.names hT 8192 t1 o1)).bind (fun _ _ => mv.at hT)).bind (fun _ _ => mv.exp hT (by decide))).bind (fun _ _ => mv.type hT)).bind (fun _ _ => mv.init hT)).bind (fun _ _ => mv.exp hT (by decide)))
theorem mv.pif {m0 : yM} {T t o k : Nat} {c : Int32} {f : Nat → Nat → PX} (hf : m0.1 9 t = c → mv T t k 0 0 (f t o)) : mv T t 0 0 0 (p_if m0 c f t o) := by
  unfold p_if
  split
  · rename_i z
    exact mv.w (hf z)
  · exact mv.u T t o
theorem mv.decls {m0 : yM} {T : Nat} (hT : TKok m0 T) : ∀ n t o, mv T t 0 0 0 (p_decls m0 n t o)
  | 0, t, o => mv.u T t o
  | n + 1, t, o => mv.pif (k := 1) (fun _ => mv.w ((mv.decl hT).bind (fun t1 o1 => mv.decls hT n t1 o1)))
theorem mv.sect {m0 : yM} {T t o : Nat} (hT : TKok m0 T) (hk : gk (m0.1 9 t)) : mv T t 1 1 0 (p_sect m0 t o) := by
  unfold p_sect
  refine mv.node ?_ _ _ _ _
  exact mv.w (((mv.step hT hk).bind (fun t1 o1 => mv.decls hT 8192 t1 o1)).bind (fun _ _ => mv.exp hT (by decide)))
theorem mv.sects {m0 : yM} {T : Nat} (hT : TKok m0 T) : ∀ n t o, mv T t 0 0 0 (p_sects m0 n t o)
  | 0, t, o => mv.u T t o
  | n + 1, t, o => by
    show mv T t 0 0 0 (if m0.1 9 t < 6 ∨ 8 < m0.1 9 t then .inl (t, o, []) else p_bind (p_sect m0 t o) (p_sects m0 n))
    split
    · exact mv.u T t o
    · rename_i z
      exact mv.w ((mv.sect hT (gk_of (fun w => z (Or.inr (Int32.lt_trans (by decide) w))))).bind (fun t1 o1 => mv.sects hT n t1 o1))
theorem mv.rng {m0 : yM} {T : Nat} (hT : TKok m0 T) : ∀ n t o, mv T t 0 0 0 (p_rng m0 n t o) ∧ mv T t 1 0 0 (p_rng m0 (n + 1) t o) := by
  have key : ∀ n, (∀ t o, mv T t 0 0 0 (p_rng m0 n t o)) → ∀ t o, mv T t 1 0 0 (p_rng m0 (n + 1) t o) := by
    intro n ih t o
    show mv T t 1 0 0 (p_bind (p_node 18 (m0.1 10 t) 0 0 (p_bind (p_const m0 t o) (p_if m0 71 (fun t o => p_bind (p_step m0 t o) (p_const m0))))) (p_if m0 172 (fun t o => p_bind (p_step m0 t o) (p_rng m0 n))))
    refine mv.w (mv.bind (k := 1) (s := 0) (b := 0) (mv.node (mv.w (mv.bind (mv.const hT) (fun t1 o1 => mv.pif (k := 1) (fun z => mv.w ((mv.step hT (by rw [z]; decide)).bind (fun _ _ => mv.const hT)))))) _ _ _ _) (fun t1 o1 => mv.pif (k := 1) (fun z => mv.w ((mv.step hT (by rw [z]; decide)).bind (fun t2 o2 => ih t2 o2)))))
  have all : ∀ n t o, mv T t 0 0 0 (p_rng m0 n t o) := by
    intro n
    induction n with
    | zero => exact fun t o => mv.u T t o
    | succ n ih => exact fun t o => mv.w (key n ih t o)
  exact fun n t o => ⟨all n t o, key n (all n) t o⟩
theorem mv.hd {m0 : yM} {T t o : Nat} (hT : TKok m0 T) (w : Int32) : mv T t 0 0 0 (p_hd m0 w t o) := by
  unfold p_hd
  split
  · exact mv.w ((mv.exp hT (by decide)).bind (fun _ _ => mv.simple hT))
  · exact mv.u T t o
/-! ladders -/
theorem mv.nm {m0 : yM} {T t o : Nat} (hT : TKok m0 T) : mv T t 1 1 0 (p_nm m0 t o) := mv.leaf hT (by decide)
theorem mv.out {m0 : yM} {T t o : Nat} (hT : TKok m0 T) : mv T t 1 1 0 (p_out m0 t o) := by
  unfold p_out
  split
  · rename_i z
    refine mv.node ?_ _ _ _ _
    intro ht
    have st : p_step m0 t o = .inl (t + 1, o, []) := by unfold p_step; rw [if_neg (fun y => absurd (z.2.symm.trans y) (by decide))]
    have lt := ltT hT ht (by rw [z.1]; decide)
    rw [st, p_bind_aft (t + 1) o [] (p_step m0), aft_nil]
    have := mv.bind (mv.step (o := o) hT (t := t + 1) (by rw [z.2]; decide)) (fun t1 o1 => mv.nm (o := o1) (t := t1) hT)
    intro t' o' G e
    have := this (by omega) t' o' G e
    omega
  · exact mv.nm hT
theorem mv.wst {m0 : yM} {T t o : Nat} {w : Int32} (hT : TKok m0 T) (hk : ¬ w = 0 → gk (m0.1 9 t)) : mv T t 0 0 0 (p_wst m0 w t o) := by
  unfold p_wst
  split
  · exact mv.u T t o
  · rename_i z
    exact mv.w (mv.step hT (hk z))
theorem mv.cell {m0 : yM} {T t o : Nat} (hT : TKok m0 T) : mv T t 1 0 0 (p_cell m0 t o) := by
  unfold p_cell
  split
  · exact mv.w (mv.leaf hT (by decide))
  · split
    · exact mv.w (mv.leaf hT (by decide))
    · split
      · rename_i z
        rcases hs : p_step m0 t o with ⟨u, o1, G⟩ | e
        · dsimp only
          refine mv.node ?_ _ _ _ _
          intro ht t' o' G' e
          obtain ⟨rfl, rfl, rfl⟩ := p_step_o hs
          have lt := ltT hT ht (by rw [z]; decide)
          have := mv.bind (mv.bind (mv.wst (o := o1) (w := wyC (m0.1 9 (t + 1))) hT (t := t + 1) (fun w => wyC_gk w)) (fun t1 o1 => mv.nm (o := o1) (t := t1) hT)) (fun t1 o1 => mv.exp (o := o1) (t := t1) (k := 169) hT (by decide)) (by omega) t' o' G' e
          omega
        · exact mv.e _ _ _ _ _ _
      · refine mv.node ?_ _ _ _ _
        exact mv.w (mv.bind (mv.wst hT (fun w => wyK_gk w)) (fun t1 o1 => mv.out hT))
theorem mv.cells {m0 : yM} {T : Nat} (hT : TKok m0 T) : ∀ n t o, mv T t 0 0 0 (p_cells m0 n t o)
  | 0, t, o => mv.u T t o
  | n + 1, t, o => by
    show mv T t 0 0 0 (if m0.1 9 t = 252 then p_bind (p_bind (p_node 29 (m0.1 10 t) 0 0 (p_step m0 t o)) (p_cell m0)) (p_cells m0 n) else if stL (m0.1 9 t) then p_bind (p_cell m0 t o) (p_cells m0 n) else .inl (t, o, []))
    split
    · rename_i z
      exact mv.w (mv.bind (mv.bind (mv.node (mv.step hT (by rw [z]; decide)) _ _ _ _) (fun _ _ => mv.cell hT)) (fun t1 o1 => mv.cells hT n t1 o1))
    · split
      · exact mv.w (mv.bind (mv.cell hT) (fun t1 o1 => mv.cells hT n t1 o1))
      · exact mv.u T t o
theorem mv.row {m0 : yM} {T t o : Nat} (hT : TKok m0 T) : mv T t 1 1 0 (p_row m0 t o) := by
  unfold p_row
  refine mv.node ?_ _ _ _ _
  exact mv.w (mv.bind (mv.bind (mv.cell hT) (fun t1 o1 => mv.cells hT 8192 t1 o1)) (fun _ _ => mv.exp hT (by decide)))
theorem mv.rows {m0 : yM} {T : Nat} (hT : TKok m0 T) : ∀ n t o, mv T t 0 0 0 (p_rows m0 n t o)
  | 0, t, o => mv.u T t o
  | n + 1, t, o => by
    show mv T t 0 0 0 (if stL (m0.1 9 t) then p_bind (p_row m0 t o) (p_rows m0 n) else .inl (t, o, []))
    split
    · exact mv.w (mv.bind (mv.row hT) (fun t1 o1 => mv.rows hT n t1 o1))
    · exact mv.u T t o
theorem mv.rung {m0 : yM} {T t o : Nat} (hT : TKok m0 T) (hk : gk (m0.1 9 t)) : mv T t 1 1 0 (p_rung m0 t o) := by
  unfold p_rung
  refine mv.node ?_ _ _ _ _
  exact mv.w (mv.bind (mv.bind (mv.bind (mv.step hT hk) (fun _ _ => mv.row hT)) (fun t1 o1 => mv.rows hT 8192 t1 o1)) (fun _ _ => mv.exp hT (by decide)))
theorem mv.rungs {m0 : yM} {T : Nat} (hT : TKok m0 T) : ∀ n t o, mv T t 0 0 0 (p_rungs m0 n t o)
  | 0, t, o => mv.u T t o
  | n + 1, t, o => mv.pif (k := 1) (fun z => mv.w ((mv.rung hT (by rw [z]; decide)).bind (fun t1 o1 => mv.rungs hT n t1 o1)))
theorem mv.lad {m0 : yM} {T t o : Nat} (hT : TKok m0 T) (hk : gk (m0.1 9 t)) : mv T t 1 1 0 (p_lad m0 t o) := by
  unfold p_lad
  refine mv.node ?_ _ _ _ _
  exact mv.w (mv.bind (mv.bind (mv.step hT hk) (fun t1 o1 => mv.rungs hT 8192 t1 o1)) (fun _ _ => mv.exp hT (by decide)))
