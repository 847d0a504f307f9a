/-! THE TREE'S GRAMMAR: ladders, ranges, expressions -/
theorem gm.rng {m0 : yM} {T : Nat} : ∀ n t o, gm m0 T 2 (fun ks => al 18 ks ∧ (¬ n = 0 → ¬ ks = []) ∧ ks.length ≤ n) t (p_rng m0 n t o)
  | 0, t, o => gm.u.w (Nat.le_refl _) (fun ks e => ⟨fun x hx => by rw [e] at hx; simp at hx, fun u => absurd rfl u, by rw [e]; exact Nat.le_refl _⟩)
  | n + 1, t, o => by
    show gm m0 T 2 _ t (p_bind (p_node 18 (m0.1 10 t) 0 0 (p_bind (p_const m0 t o) (p_if m0 71 (fun t o => p_bind (p_step m0 t o) (p_const m0))))) (p_if m0 172 (fun t o => p_bind (p_step m0 t o) (p_rng m0 n))))
    have a : gm m0 T 2 (is1 18) t (p_node 18 (m0.1 10 t) 0 0 (p_bind (p_const m0 t o) (p_if m0 71 (fun t o => p_bind (p_step m0 t o) (p_const m0))))) := by
      refine gm.nd0 (k := 18) (gm.bind gm.const (fun t1 o1 => gm.pif (c := 71) (f := fun t o => p_bind (p_step m0 t o) (p_const m0)) ((gm.st (f := p_const m0) (fun _ _ => gm.const)).b (by omega)))) rfl (fun ks h => ?_)
      obtain ⟨a, b, rfl, ⟨x, hx, rfl⟩, hb⟩ := h
      exact ⟨rfl, x, b, hx, hb, rfl⟩
    refine (a.bind (fun t1 o1 => gm.pif (c := 172) (f := fun t o => p_bind (p_step m0 t o) (p_rng m0 n)) ((gm.st (fun t2 o2 => gm.rng n t2 o2)).b (by omega)))).w (Nat.le_refl _) (fun ks h => ?_)
    obtain ⟨a, b, rfl, rfl, hb⟩ := h
    refine ⟨?_, fun _ => by simp, ?_⟩
    · rcases hb with rfl | hb
      · exact al.one 18
      · exact (al.one 18).app hb.1
    · rcases hb with rfl | hb
      · simp
      · have := hb.2.2
        rw [List.length_append, List.length_singleton]
        omega
theorem gm.nm6 {m0 : yM} {T t o : Nat} : gm m0 T 1 (is1 6) t (p_nm m0 t o) := gm.nm (k := 6) rfl (fun v vt h => ⟨h, rfl⟩)
theorem gm.out {m0 : yM} {T t o : Nat} : gm m0 T 2 (fun ks => ks = [6] ∨ ks = [33]) t (p_out m0 t o) := by
  unfold p_out
  split
  · rename_i z
    refine gm.w (gm.ndv (k := 33) (P := is1 6) (N := 1) ?_ (by omega) rfl (fun ks hT e => ⟨⟨t, rfl, by omega, z.1, rfl⟩, e⟩)) (Nat.le_refl _) (fun ks e => Or.inr e)
    exact (gm.bind (f := p_nm m0) (gm.bind (f := p_step m0) gm.step (fun _ _ => gm.step.b (by omega))) (fun _ _ => gm.nm6)).w (Nat.le_refl _) (fun ks h => by
      obtain ⟨a, b, rfl, ⟨c, d, rfl, rfl, rfl⟩, h⟩ := h
      exact h)
  · exact gm.nm6.w (by omega) (fun ks e => Or.inl e)
theorem wyC_4 (k : Int32) : wyC k = 0 ∨ wyC k = 1 ∨ wyC k = 2 ∨ wyC k = 3 := by
  unfold wyC
  repeat' split
  all_goals simp
theorem wyK_4 (k : Int32) : wyK k = 0 ∨ wyK k = 1 ∨ wyK k = 2 ∨ wyK k = 3 := by
  unfold wyK
  repeat' split
  all_goals simp
theorem gm.wst {m0 : yM} {T N t o : Nat} {w : Int32} : gm m0 T N isE t (p_wst m0 w t o) := by
  unfold p_wst
  split
  · exact gm.u
  · exact gm.step.b (by omega)
theorem gm.cell {m0 : yM} {T t o : Nat} : gm m0 T 3 (fun ks => ∃ x, lcK x ∧ ks = [x]) t (p_cell m0 t o) := by
  unfold p_cell
  split
  · exact (gm.lf (k := 26) rfl (fun _ _ => ⟨rfl, rfl⟩)).w (by omega) (fun ks e => ⟨26, by omega, e⟩)
  · split
    · exact (gm.lf (k := 27) rfl (fun _ _ => ⟨rfl, rfl⟩)).w (by omega) (fun ks e => ⟨27, by omega, e⟩)
    · split
      · rcases hs : p_step m0 t o with ⟨u, o1, G⟩ | e
        · dsimp only
          obtain ⟨rfl, rfl, rfl⟩ := p_step_o hs
          refine gm.w (gm.nd0 (k := 28) (N := 1) (P := is1 6) ?_ rfl (fun ks e => ⟨rfl, wyC_4 _, e⟩)) (by omega) (fun ks e => ⟨28, by omega, e⟩)
          exact (((gm.bind (f := p_nm m0) gm.wst (fun _ _ => gm.nm6)).w (Nat.le_refl _) (fun _ h => h.eL)).s.b (by omega))
        · exact gm.e _
      · refine gm.w (gm.nd0 (k := 25) (N := 2) ((gm.bind (f := p_out m0) gm.wst (fun _ _ => gm.out)).w (Nat.le_refl _) (fun _ h => h.eL)) rfl (fun ks e => ⟨rfl, wyK_4 _, e⟩)) (by omega) (fun ks e => ⟨25, by omega, e⟩)
abbrev clsK (ks : List Nat) : Prop := ∀ x, x ∈ ks → lcK x ∨ x = 29
theorem clsK.app {a b : List Nat} (h : clsK a) (h2 : clsK b) : clsK (a ++ b) := fun x hx => (List.mem_append.mp hx).elim (h x) (h2 x)
theorem clsK.one {x : Nat} (h : lcK x ∨ x = 29) : clsK [x] := fun y hy => by rw [List.mem_singleton.mp hy]; exact h
theorem clsK.nil {ks : List Nat} (e : ks = []) : clsK ks := fun x hx => by rw [e] at hx; simp at hx
theorem gm.cells {m0 : yM} {T : Nat} : ∀ n t o, gm m0 T 3 clsK t (p_cells m0 n t o)
  | 0, t, o => gm.u.w (Nat.le_refl _) (fun ks e => clsK.nil e)
  | n + 1, t, o => by
    show gm m0 T 3 clsK t (if m0.1 9 t = 252 then p_bind (p_bind (p_node 29 (m0.1 10 t) 0 0 (p_step m0 t o)) (p_cell m0)) (p_cells m0 n) else if stL (m0.1 9 t) then p_bind (p_cell m0 t o) (p_cells m0 n) else .inl (t, o, []))
    split
    · have a : gm m0 T 3 (is1 29) t (p_node 29 (m0.1 10 t) 0 0 (p_step m0 t o)) := (gm.nd0 (k := 29) (N := 0) (gm.step.b (by omega)) rfl (fun ks e => ⟨rfl, e⟩)).w (by omega) (fun _ h => h)
      refine ((a.bind (f := p_cell m0) (fun _ _ => gm.cell)).bind (fun t1 o1 => gm.cells n t1 o1)).w (Nat.le_refl _) (fun ks h => ?_)
      obtain ⟨a, b, rfl, ⟨c, d, rfl, rfl, ⟨x, hx, rfl⟩⟩, h⟩ := h
      exact ((clsK.one (Or.inr rfl)).app (clsK.one (Or.inl hx))).app h
    · split
      · refine (gm.cell.bind (fun t1 o1 => gm.cells n t1 o1)).w (Nat.le_refl _) (fun ks h => ?_)
        obtain ⟨a, b, rfl, ⟨x, hx, rfl⟩, h⟩ := h
        exact (clsK.one (Or.inl hx)).app h
      · exact gm.u.w (Nat.le_refl _) (fun ks e => clsK.nil e)
theorem gm.row {m0 : yM} {T t o : Nat} : gm m0 T 4 (is1 24) t (p_row m0 t o) := by
  unfold p_row
  refine gm.nd0 (k := 24) (gm.bind gm.cell (fun t1 o1 => gm.cells 8192 t1 o1)).s rfl (fun ks h => ?_)
  obtain ⟨a, b, rfl, ⟨x, hx, rfl⟩, h⟩ := h
  exact ⟨rfl, x, b, hx, h, rfl⟩
theorem al.nil {k : Nat} {ks : List Nat} (e : ks = []) : al k ks := fun x hx => by rw [e] at hx; simp at hx
theorem gm.rows {m0 : yM} {T : Nat} : ∀ n t o, gm m0 T 4 (al 24) t (p_rows m0 n t o)
  | 0, t, o => gm.u.w (Nat.le_refl _) (fun ks e => al.nil e)
  | n + 1, t, o => by
    show gm m0 T 4 (al 24) t (if stL (m0.1 9 t) then p_bind (p_row m0 t o) (p_rows m0 n) else .inl (t, o, []))
    split
    · refine (gm.row.bind (fun t1 o1 => gm.rows n t1 o1)).w (Nat.le_refl _) (fun ks h => ?_)
      obtain ⟨a, b, rfl, rfl, h⟩ := h
      exact (al.one 24).app h
    · exact gm.u.w (Nat.le_refl _) (fun ks e => al.nil e)
theorem gm.rung {m0 : yM} {T t o : Nat} : gm m0 T 5 (is1 23) t (p_rung m0 t o) := by
  unfold p_rung
  refine gm.nd0 (k := 23) (((gm.st (f := p_row m0) (fun _ _ => gm.row)).bind (fun t1 o1 => gm.rows 8192 t1 o1)).s.b (by omega)) rfl (fun ks h => ?_)
  obtain ⟨a, b, rfl, rfl, h⟩ := h
  exact ⟨rfl, by simp, (al.one 24).app h⟩
theorem gm.rungs {m0 : yM} {T : Nat} : ∀ n t o, gm m0 T 5 (al 23) t (p_rungs m0 n t o)
  | 0, t, o => gm.u.w (Nat.le_refl _) (fun ks e => al.nil e)
  | n + 1, t, o => (gm.pif (c := 39) (f := fun t o => p_bind (p_rung m0 t o) (p_rungs m0 n)) (gm.rung.bind (fun t1 o1 => gm.rungs n t1 o1))).w (Nat.le_refl _) (fun ks h => by
    rcases h with rfl | ⟨a, b, rfl, rfl, h⟩
    · exact al.nil rfl
    · exact (al.one 23).app h)
theorem gm.lad {m0 : yM} {T t o : Nat} : gm m0 T 6 (is1 22) t (p_lad m0 t o) := by
  unfold p_lad
  exact gm.nd0 (k := 22) ((gm.st (fun t1 o1 => gm.rungs 8192 t1 o1)).s.b (by omega)) rfl (fun ks h => ⟨rfl, h⟩)
/-! expressions -/
theorem opO_j (x : Int32) : opO x = -1 ∨ ∃ j, j < 14 ∧ opO x = nI j := by
  by_cases h30 : x = 30
  · rw [h30]; exact Or.inr ⟨0, by decide, rfl⟩
  by_cases h31 : x = 31
  · rw [h31]; exact Or.inr ⟨1, by decide, rfl⟩
  by_cases h32 : x = 32
  · rw [h32]; exact Or.inr ⟨2, by decide, rfl⟩
  by_cases h33 : x = 33
  · rw [h33]; exact Or.inr ⟨13, by decide, rfl⟩
  by_cases h72 : x = 72
  · rw [h72]; exact Or.inr ⟨7, by decide, rfl⟩
  by_cases h73 : x = 73
  · rw [h73]; exact Or.inr ⟨8, by decide, rfl⟩
  by_cases h74 : x = 74
  · rw [h74]; exact Or.inr ⟨4, by decide, rfl⟩
  by_cases h166 : x = 166
  · rw [h166]; exact Or.inr ⟨2, by decide, rfl⟩
  by_cases h170 : x = 170
  · rw [h170]; exact Or.inr ⟨11, by decide, rfl⟩
  by_cases h171 : x = 171
  · rw [h171]; exact Or.inr ⟨9, by decide, rfl⟩
  by_cases h173 : x = 173
  · rw [h173]; exact Or.inr ⟨10, by decide, rfl⟩
  by_cases h175 : x = 175
  · rw [h175]; exact Or.inr ⟨12, by decide, rfl⟩
  by_cases h188 : x = 188
  · rw [h188]; exact Or.inr ⟨5, by decide, rfl⟩
  by_cases h189 : x = 189
  · rw [h189]; exact Or.inr ⟨3, by decide, rfl⟩
  by_cases h190 : x = 190
  · rw [h190]; exact Or.inr ⟨6, by decide, rfl⟩
  left
  unfold opO
  rw [if_neg h30, if_neg h31, if_neg h32, if_neg h33, if_neg h72, if_neg h73, if_neg h74, if_neg h166, if_neg h170, if_neg h171, if_neg h173, if_neg h175, if_neg h188, if_neg h189, if_neg h190]
/-- an expression's tree behind t0, o0 being open before it -/
def eG (m0 : yM) (T t0 o0 t o : Nat) (G : List ND) : Prop := VI t0 t G ∧ ∃ k h, exK k ∧ h + 2 * o0 ≤ 62 + o ∧ GT m0 T h k G
def lG (m0 : yM) (T t0 o0 t o : Nat) (G : List ND) : Prop := VI t0 t G ∧ ∃ ks h, (∀ x, x ∈ ks → exK x) ∧ h + 2 * o0 ≤ 62 + o ∧ GF m0 T h ks G
def ge (R : Nat → Nat → Nat → Nat → List ND → Prop) (T o t : Nat) (r : Option PX) : Prop := ∀ t' o' G, r = some (.inl (t', o', G)) → t ≤ t' ∧ o ≤ o' ∧ (t' ≤ T → R t o t' o' G)
def gR (m0 : yM) (T : Nat) (rc : ER) : Prop := (∀ c q L t o, o ≤ 60 → ge (eG m0 T) T o t (rc 0 c q L t o)) ∧ (∀ c q L t o, 0 ≤ c → o ≤ 60 → ge (eG m0 T) T o t (rc 1 c q L t o)) ∧
  (∀ c q L t o t0 o0, 0 ≤ c → t0 ≤ t → o0 ≤ o → o ≤ 60 → (t ≤ T → eG m0 T t0 o0 t o L) → ∀ t' o' G, rc 2 c q L t o = some (.inl (t', o', G)) → t0 ≤ t' ∧ o0 ≤ o' ∧ (t' ≤ T → eG m0 T t0 o0 t' o' G)) ∧
  (∀ c q L t o, o ≤ 60 → ge (lG m0 T) T o t (rc 3 c q L t o))
theorem eG.lf {m0 : yM} {T t o k : Nat} {p v : Int32} {vt t' : Nat} (ho : o ≤ 60) (hk : exK k) (hn : okN m0 T k v vt []) (hv : vt = 0 ∨ (t < vt ∧ vt ≤ t')) : eG m0 T t o t' o [(nI k, p, v, vt, 1)] := by
  refine ⟨?_, k, 1, hk, by omega, GF.nd GF.nil hn⟩
  rcases hv with rfl | hv
  · exact VI.nil.z
  · exact VI.nil.c hv.1 hv.2
theorem lf_o {m0 : yM} {tok kd v : Int32} {vt t o t' o' : Nat} {G : List ND} (e : p_leaf m0 tok kd v vt t o = .inl (t', o', G)) : t' = t + 1 ∧ o' = o ∧ G = [(kd, m0.1 10 t, v, vt, 1)] ∧ m0.1 9 t = tok := by
  unfold p_leaf at e
  split at e
  · rename_i z
    obtain ⟨G1, e1, rfl⟩ := p_node_o e
    obtain ⟨rfl, rfl, rfl⟩ := p_step_o e1
    exact ⟨rfl, rfl, rfl, z⟩
  · cases e
theorem pdec_o {t o t' o' : Nat} {G : List ND} (e : pdec t o = some (.inl (t', o', G))) : t' = t ∧ o' = o - 1 ∧ G = [] := by
  simp only [pdec, Option.some.injEq, Sum.inl.injEq, Prod.mk.injEq] at e
  obtain ⟨rfl, rfl, rfl⟩ := e
  exact ⟨rfl, rfl, rfl⟩
/-- a node above an expression, or above expressions, within one more that is open -/
theorem eG.up {m0 : yM} {T t o t1 o1 k : Nat} {p v : Int32} {vt : Nat} {G : List ND} (h : eG m0 T (t + 1) (o + 1) t1 o1 G) (ho : o + 1 ≤ o1) (h1 : t + 1 ≤ t1) (hk : exK k) (hv : vt = 0 ∨ vt = t + 1) (hn : ∀ a, exK a → okN m0 T k v vt [a]) : eG m0 T t o t1 (o1 - 1) ((nI k, p, v, vt, G.length + 1) :: G) := by
  obtain ⟨vi, a, hh, ha, hb, g⟩ := h
  refine ⟨?_, k, hh + 1, hk, by omega, (GF.one g).nd (hn a ha)⟩
  rcases hv with rfl | rfl
  · exact VI.z ⟨vi.1, fun x hx => by have := vi.2 x hx; omega⟩
  · exact vi.c (by omega) h1
theorem lG.up {m0 : yM} {T t o t1 o1 k : Nat} {p v : Int32} {G : List ND} (h : lG m0 T (t + 1) (o + 1) t1 o1 G) (ho : o + 1 ≤ o1) (h1 : t + 1 ≤ t1) (hk : exK k) (hn : ∀ ks, (∀ x, x ∈ ks → exK x) → okN m0 T k v (t + 1) ks) : eG m0 T t o t1 (o1 - 1) ((nI k, p, v, t + 1, G.length + 1) :: G) := by
  obtain ⟨vi, ks, hh, ha, hb, g⟩ := h
  exact ⟨vi.c (by omega) h1, k, hh + 1, hk, by omega, g.nd (hn ks ha)⟩
theorem eG.t {m0 : yM} {T t0 o0 t o t' : Nat} {G : List ND} (h : eG m0 T t0 o0 t o G) (ht : t ≤ t') : eG m0 T t0 o0 t' o G := ⟨⟨h.1.1, fun x hx => by have := h.1.2 x hx; omega⟩, h.2⟩
theorem lG.t {m0 : yM} {T t0 o0 t o t' : Nat} {G : List ND} (h : lG m0 T t0 o0 t o G) (ht : t ≤ t') : lG m0 T t0 o0 t' o G := ⟨⟨h.1.1, fun x hx => by have := h.1.2 x hx; omega⟩, h.2⟩
theorem eG.b {m0 : yM} {T t0 t1 o0 t o : Nat} {G : List ND} (h : eG m0 T t1 o0 t o G) (ht : t0 ≤ t1) : eG m0 T t0 o0 t o G := ⟨⟨h.1.1, fun x hx => by have := h.1.2 x hx; omega⟩, h.2⟩
theorem gNm {m0 : yM} {T : Nat} {rc : ER} (h : gR m0 T rc) {t o : Nat} (h64 : m0.1 9 t = 64) (ho : o ≤ 60) : ge (eG m0 T) T o t (pNm m0 rc t o) := by
  obtain ⟨h0, h1, h2, h3⟩ := h
  intro t' o' G e
  unfold pNm at e
  split at e
  · obtain ⟨G1, e1, rfl⟩ := pnode_some e
    obtain ⟨t1, o1, g1, G2, e2, e3, rfl⟩ := po_some e1
    obtain ⟨rfl, rfl, rfl⟩ := p_step_o (Option.some.inj e2)
    obtain ⟨t2, o2, g2, G3, e4, e5, rfl⟩ := po_some e3
    obtain ⟨rfl, rfl, rfl, lt⟩ := p_into_o (Option.some.inj e4)
    obtain ⟨t3, o3, g3, G4, e6, e7, rfl⟩ := po_some e5
    obtain ⟨t4, o4, g4, G5, e8, e9, rfl⟩ := po_some e7
    obtain ⟨rfl, rfl, rfl, -⟩ := p_exp_o (Option.some.inj e8)
    obtain ⟨rfl, rfl, rfl⟩ := pdec_o e9
    have a := h3 0 0 [] _ _ (by omega) _ _ _ e6
    refine ⟨by omega, by omega, fun hT => ?_⟩
    have b := a.2.2 (by omega)
    simp only [List.nil_append, List.append_nil]
    have b' : lG m0 T (t + 1) (o1 + 1) (t3 + 1) o4 g3 := ⟨⟨b.1.1, fun x hx => by have := b.1.2 x hx; omega⟩, b.2⟩
    exact b'.up (k := 34) (by omega) (by omega) (by omega) (fun ks hk => ⟨⟨t, rfl, by omega, h64, rfl⟩, hk⟩)
  · split at e
    · obtain ⟨G1, e1, rfl⟩ := pnode_some e
      obtain ⟨t1, o1, g1, G2, e2, e3, rfl⟩ := po_some e1
      obtain ⟨rfl, rfl, rfl⟩ := p_step_o (Option.some.inj e2)
      obtain ⟨t2, o2, g2, G3, e4, e5, rfl⟩ := po_some e3
      obtain ⟨rfl, rfl, rfl⟩ := p_step_o (Option.some.inj e4)
      obtain ⟨rfl, rfl, rfl, z⟩ := lf_o (Option.some.inj e5)
      refine ⟨by omega, by omega, fun hT => ?_⟩
      simp only [List.nil_append]
      refine ⟨VI.c (VI.nil.c (by omega) (by omega)) (by omega) (by omega), 33, 2, by omega, by omega, ?_⟩
      exact (GF.one (GF.nd (k := 6) GF.nil ⟨⟨_, rfl, by omega, z, rfl⟩, rfl⟩)).nd ⟨⟨t, rfl, by omega, h64, rfl⟩, rfl⟩
    · split at e
      · obtain ⟨G1, e1, rfl⟩ := pnode_some e
        obtain ⟨t1, o1, g1, G2, e2, e3, rfl⟩ := po_some e1
        obtain ⟨rfl, rfl, rfl⟩ := p_step_o (Option.some.inj e2)
        obtain ⟨t2, o2, g2, G3, e4, e5, rfl⟩ := po_some e3
        obtain ⟨rfl, rfl, rfl, lt⟩ := p_into_o (Option.some.inj e4)
        obtain ⟨t3, o3, g3, G4, e6, e7, rfl⟩ := po_some e5
        obtain ⟨t4, o4, g4, G5, e8, e9, rfl⟩ := po_some e7
        obtain ⟨rfl, rfl, rfl, -⟩ := p_exp_o (Option.some.inj e8)
        obtain ⟨rfl, rfl, rfl⟩ := pdec_o e9
        have a := h1 0 0 [] _ _ (by decide) (by omega) _ _ _ e6
        refine ⟨by omega, by omega, fun hT => ?_⟩
        have b := ((a.2.2 (by omega)).t (t' := t3 + 1) (by omega)).b (t0 := t + 1) (by omega)
        simp only [List.nil_append, List.append_nil]
        exact b.up (k := 32) (by omega) (by omega) (by omega) (Or.inr rfl) (fun x hx => ⟨⟨t, rfl, by omega, h64, rfl⟩, x, hx, rfl⟩)
      · obtain ⟨G1, e1, rfl⟩ := pnode_some e
        obtain ⟨rfl, rfl, rfl⟩ := p_step_o (Option.some.inj e1)
        refine ⟨by omega, by omega, fun hT => ?_⟩
        exact eG.lf (k := 6) ho (by omega) ⟨⟨t, rfl, by omega, h64, rfl⟩, rfl⟩ (Or.inr (by omega))
theorem gE {m0 : yM} {T N : Nat} (h : gR m0 T (pR m0 N)) : gR m0 T (pE m0 (pR m0 N)) := by
  have hh := h
  obtain ⟨h0, h1, h2, h3⟩ := h
  have ub := ubR m0 N
  refine ⟨fun c q L t o ho => ?_, fun c q L t o hc ho => ?_, fun c q L t o t0 o0 hc ht hoo ho hL => ?_, fun c q L t o ho => ?_⟩
  · show ge (eG m0 T) T o t (if m0.1 9 t = 34 ∨ m0.1 9 t = 173 then pnode 36 (m0.1 10 t) (if m0.1 9 t = 34 then 1 else 0) 0 (po (some (p_into m0 t o)) (fun t o => po (pR m0 N 0 0 0 [] t o) pdec)) else if m0.1 9 t = 168 then po (some (p_into m0 t o)) (fun t o => po (pR m0 N 1 0 0 [] t o) (fun t o => po (some (p_exp m0 169 t o)) pdec)) else if m0.1 9 t = 65 then some (p_leaf m0 65 30 (m0.1 11 t) 0 t o) else if m0.1 9 t = 35 then some (p_leaf m0 35 31 1 0 t o) else if m0.1 9 t = 36 then some (p_leaf m0 36 31 0 0 t o) else if m0.1 9 t = 64 then pNm m0 (pR m0 N) t o else some (p_ref m0 6 t))
    split
    · intro t' o' G e
      obtain ⟨G1, e1, rfl⟩ := pnode_some e
      obtain ⟨t1, o1, g1, G2, e2, e3, rfl⟩ := po_some e1
      obtain ⟨rfl, rfl, rfl, lt⟩ := p_into_o (Option.some.inj e2)
      obtain ⟨t2, o2, g2, G3, e4, e5, rfl⟩ := po_some e3
      obtain ⟨rfl, rfl, rfl⟩ := pdec_o e5
      have a := h0 0 0 [] _ _ (by omega) _ _ _ e4
      refine ⟨by omega, by omega, fun hT => ?_⟩
      simp only [List.nil_append, List.append_nil]
      refine (a.2.2 hT).up (k := 36) (by omega) (by omega) (by omega) (Or.inl rfl) (fun x hx => ⟨rfl, ?_, x, hx, rfl⟩)
      split
      · exact Or.inr rfl
      · exact Or.inl rfl
    · split
      · intro t' o' G e
        obtain ⟨t1, o1, g1, G2, e2, e3, rfl⟩ := po_some e
        obtain ⟨rfl, rfl, rfl, lt⟩ := p_into_o (Option.some.inj e2)
        obtain ⟨t3, o3, g3, G4, e6, e7, rfl⟩ := po_some e3
        obtain ⟨t4, o4, g4, G5, e8, e9, rfl⟩ := po_some e7
        obtain ⟨rfl, rfl, rfl, -⟩ := p_exp_o (Option.some.inj e8)
        obtain ⟨rfl, rfl, rfl⟩ := pdec_o e9
        have a := h1 0 0 [] _ _ (by decide) (by omega) _ _ _ e6
        refine ⟨by omega, by omega, fun hT => ?_⟩
        simp only [List.nil_append, List.append_nil]
        obtain ⟨vi, k, hh, k1, k2, k3⟩ := a.2.2 (by omega)
        exact ⟨⟨vi.1, fun x hx => by have := vi.2 x hx; omega⟩, k, hh, k1, by omega, k3⟩
      · split
        · intro t' o' G e
          obtain ⟨rfl, rfl, rfl, -⟩ := lf_o (Option.some.inj e)
          exact ⟨by omega, by omega, fun _ => eG.lf (k := 30) ho (by omega) ⟨rfl, rfl⟩ (Or.inl rfl)⟩
        · split
          · intro t' o' G e
            obtain ⟨rfl, rfl, rfl, -⟩ := lf_o (Option.some.inj e)
            exact ⟨by omega, by omega, fun _ => eG.lf (k := 31) ho (by omega) ⟨rfl, rfl, Or.inr rfl⟩ (Or.inl rfl)⟩
          · split
            · intro t' o' G e
              obtain ⟨rfl, rfl, rfl, -⟩ := lf_o (Option.some.inj e)
              exact ⟨by omega, by omega, fun _ => eG.lf (k := 31) ho (by omega) ⟨rfl, rfl, Or.inl rfl⟩ (Or.inl rfl)⟩
            · split
              · rename_i z
                exact gNm hh z ho
              · intro t' o' G e
                cases e
  · show ge (eG m0 T) T o t (match pR m0 N 0 0 0 [] t o with | none => none | some (.inr e) => some (.inr e) | some (.inl (t1, o1, G)) => pR m0 N 2 c 0 G t1 o1)
    intro t' o' G e
    rcases hr : pR m0 N 0 0 0 [] t o with _ | ⟨⟨t1, o1, G1⟩ | e1⟩
    · rw [hr] at e; cases e
    · rw [hr] at e
      have a := h0 0 0 [] t o ho t1 o1 G1 hr
      exact h2 c 0 G1 t1 o1 t o hc a.1 a.2.1 (ub _ _ _ _ _ _ _ _ _ hr ho) a.2.2 t' o' G e
    · rw [hr] at e; cases e
  · intro t' o' G e
    have e : (if 60 < q ∨ clO (opO (m0.1 9 t)) < c then some (.inl (t, o, L)) else match p_into m0 t o with | .inr e => some (.inr e) | .inl (t1, o1, _) => match pR m0 N 1 (clO (opO (m0.1 9 t)) + 1) 0 [] t1 o1 with | none => none | some (.inr e) => some (.inr e) | some (.inl (t2, o2, R)) => pR m0 N 2 c (q + 1) ((35, m0.1 10 t, opO (m0.1 9 t), 0, L.length + R.length + 1) :: (L ++ R)) t2 o2) = some (.inl (t', o', G)) := e
    split at e
    · simp only [Option.some.injEq, Sum.inl.injEq, Prod.mk.injEq] at e
      obtain ⟨rfl, rfl, rfl⟩ := e
      exact ⟨ht, hoo, hL⟩
    · rename_i z
      rcases hi : p_into m0 t o with ⟨t1, o1, G1⟩ | e1
      · rw [hi] at e
        dsimp only at e
        obtain ⟨rfl, rfl, rfl, lt⟩ := p_into_o hi
        rcases hr : pR m0 N 1 (clO (opO (m0.1 9 t)) + 1) 0 [] (t + 1) (o + 1) with _ | ⟨⟨t2, o2, R⟩ | e2⟩
        · rw [hr] at e; cases e
        · rw [hr] at e
          dsimp only at e
          have nc : ¬ clO (opO (m0.1 9 t)) < 0 := fun w => z (Or.inr (Int32.lt_of_lt_of_le w hc))
          have a := h1 _ 0 [] (t + 1) (o + 1) (cl_s nc) (by omega) t2 o2 R hr
          have u2 := ub _ _ _ _ _ _ _ _ _ hr (by omega)
          refine h2 c (q + 1) _ t2 o2 t0 o0 hc (by omega) (by omega) u2 (fun hT => ?_) t' o' G e
          obtain ⟨v1, k1, x1, y1, z1, g1⟩ := hL (by omega)
          obtain ⟨v2, k2, x2, y2, z2, g2⟩ := a.2.2 hT
          have vj : ∃ j, j < 14 ∧ opO (m0.1 9 t) = nI j := by
            rcases opO_j (m0.1 9 t) with y | y
            · rw [y] at nc; exact absurd (by decide) nc
            · exact y
          refine ⟨VI.z (v1.app ⟨v2.1, fun x hx => by have := v2.2 x hx; omega⟩ ht (by omega)), 35, max x1 x2 + 1, by omega, by omega, ?_⟩
          have g := ((GF.one g1).mono (Nat.le_max_left x1 x2)).app ((GF.one g2).mono (Nat.le_max_right x1 x2))
          have r := g.nd (k := 35) (p := m0.1 10 t) (v := opO (m0.1 9 t)) (vt := 0) ⟨rfl, vj, k1, k2, y1, y2, rfl⟩
          rw [List.length_append] at r
          exact r
        · rw [hr] at e; cases e
      · rw [hi] at e; cases e
  · show ge (lG m0 T) T o t (if 8192 ≤ q ∨ m0.1 9 t = 169 then some (.inl (t, o, [])) else po (some (if q = 0 then .inl (t, o, []) else p_exp m0 172 t o)) (fun t o => po (pR m0 N 1 0 0 [] t o) (fun t o => pR m0 N 3 0 (q + 1) [] t o)))
    split
    · intro t' o' G e
      simp only [Option.some.injEq, Sum.inl.injEq, Prod.mk.injEq] at e
      obtain ⟨rfl, rfl, rfl⟩ := e
      exact ⟨by omega, by omega, fun _ => ⟨VI.nil, [], 0, fun x hx => by simp at hx, by omega, GF.nil⟩⟩
    · intro t' o' G e
      obtain ⟨t1, o1, g1, G2, e2, e3, rfl⟩ := po_some e
      have s : t ≤ t1 ∧ o1 = o ∧ g1 = [] := by
        have e2 := Option.some.inj e2
        split at e2
        · simp only [Sum.inl.injEq, Prod.mk.injEq] at e2
          obtain ⟨rfl, rfl, rfl⟩ := e2
          exact ⟨Nat.le_refl _, rfl, rfl⟩
        · obtain ⟨rfl, rfl, rfl, -⟩ := p_exp_o e2
          exact ⟨by omega, rfl, rfl⟩
      obtain ⟨s1, rfl, rfl⟩ := s
      obtain ⟨t2, o2, g2, G3, e4, e5, rfl⟩ := po_some e3
      have a := h1 0 0 [] _ _ (by decide) ho _ _ _ e4
      have u2 := ub _ _ _ _ _ _ _ _ _ e4 ho
      have b := h3 0 (q + 1) [] _ _ u2 _ _ _ e5
      refine ⟨by omega, by omega, fun hT => ?_⟩
      obtain ⟨v1, k1, x1, y1, z1, w1⟩ := a.2.2 (by omega)
      obtain ⟨v2, k2, x2, y2, z2, w2⟩ := b.2.2 hT
      simp only [List.nil_append]
      refine ⟨VI.app (t1 := t2) ⟨v1.1, fun x hx => by have := v1.2 x hx; omega⟩ v2 (by omega) b.1, [k1] ++ k2, max x1 x2, fun x hx => ?_, by omega, ((GF.one w1).mono (Nat.le_max_left x1 x2)).app (w2.mono (Nat.le_max_right x1 x2))⟩
      rcases List.mem_append.mp hx with y | y
      · rw [List.mem_singleton.mp y]; exact y1
      · exact y2 x y
theorem gRR {m0 : yM} {T : Nat} : ∀ N, gR m0 T (pR m0 N)
  | 0 => ⟨fun _ _ _ _ _ _ _ _ _ e => (by cases e), fun _ _ _ _ _ _ _ _ _ _ e => (by cases e), fun _ _ _ _ _ _ _ _ _ _ _ _ _ _ _ e => (by cases e), fun _ _ _ _ _ _ _ _ _ e => (by cases e)⟩
  | N + 1 => gE (gRR N)
