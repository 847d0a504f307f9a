/-! THE TREE'S GRAMMAR: statements, blocks, the text -/
def gs (m0 : yM) (T N : Nat) (P : List Nat → Prop) (t oo : Nat) (r : Option PX) : Prop := ∀ t' o' G, r = some (.inl (t', o', G)) → o' = oo ∧ t ≤ t' ∧ (t' ≤ T → VI t t' G ∧ ∃ ks, P ks ∧ GF m0 T N ks G)
theorem gs.pp {m0 : yM} {T N t o1 o2 : Nat} {P P' : List Nat → Prop} {r : Option PX} {f : Nat → Nat → Option PX} (h : gs m0 T N P t o1 r) (hf : ∀ t1 G, r = some (.inl (t1, o1, G)) → gs m0 T N P' t1 o2 (f t1 o1)) : gs m0 T N (cat P P') t o2 (po r f) := by
  intro t' o' G e
  obtain ⟨t1, o1', G1, G2, e1, e2, rfl⟩ := po_some e
  have a := h _ _ _ e1
  obtain ⟨rfl, a1, a2⟩ := a
  have b := hf t1 G1 e1 t' o' G2 e2
  refine ⟨b.1, by omega, fun hT => ?_⟩
  obtain ⟨v1, k1, p1, g1⟩ := a2 (by omega)
  obtain ⟨v2, k2, p2, g2⟩ := b.2.2 hT
  exact ⟨v1.app v2 a1 b.2.1, k1 ++ k2, ⟨k1, k2, rfl, p1, p2⟩, g1.app g2⟩
theorem gs.w {m0 : yM} {T N N' t oo : Nat} {P P' : List Nat → Prop} {r : Option PX} (h : gs m0 T N P t oo r) (hN : N ≤ N') (hP : ∀ ks, P ks → P' ks) : gs m0 T N' P' t oo r := by
  intro t' o' G e
  have a := h t' o' G e
  refine ⟨a.1, a.2.1, fun hT => ?_⟩
  obtain ⟨v1, k1, p1, g1⟩ := a.2.2 hT
  exact ⟨v1, k1, hP _ p1, g1.mono hN⟩
theorem gs.n {m0 : yM} {T N N' t oo : Nat} {P : List Nat → Prop} {r : Option PX} (h : gs m0 T N P t oo r) (hN : N ≤ N') : gs m0 T N' P t oo r := h.w hN (fun _ z => z)
theorem gs.b {m0 : yM} {T N t t1 oo : Nat} {P : List Nat → Prop} {r : Option PX} (h : gs m0 T N P t1 oo r) (ht : t ≤ t1) : gs m0 T N P t oo r := by
  intro t' o' G e
  have a := h t' o' G e
  refine ⟨a.1, by omega, fun hT => ?_⟩
  obtain ⟨v1, k1, p1, g1⟩ := a.2.2 hT
  exact ⟨⟨v1.1, fun x hx => by have := v1.2 x hx; omega⟩, k1, p1, g1⟩
theorem gs.of {m0 : yM} {T N t oo : Nat} {P : List Nat → Prop} {X : PX} (h : gm m0 T N P t X) (ho : ∀ t' o' G, X = .inl (t', o', G) → o' = oo) : gs m0 T N P t oo (some X) := by
  intro t' o' G e
  have e := Option.some.inj e
  exact ⟨ho _ _ _ e, h t' o' G e⟩
theorem gs.u {m0 : yM} {T N t o : Nat} : gs m0 T N isE t o (unit_ t o) := gs.of gm.u (fun _ _ _ e => by simp only [Sum.inl.injEq, Prod.mk.injEq] at e; omega)
theorem gs.exp' {m0 : yM} {T N t o : Nat} {k : Int32} : gs m0 T N (isX m0 T t k) (t + 1) o (some (p_exp m0 k t o)) := gs.of gm.exp' (fun _ _ _ e => (p_exp_o e).2.1)
theorem gs.exp {m0 : yM} {T N t o : Nat} {k : Int32} : gs m0 T N isE t o (some (p_exp m0 k t o)) := gs.of gm.exp (fun _ _ _ e => (p_exp_o e).2.1)
theorem gs.step {m0 : yM} {T N t o : Nat} : gs m0 T N isE (t + 1) o (some (p_step m0 t o)) := gs.of gm.step (fun _ _ _ e => (p_step_o e).2.1)
theorem gs.into {m0 : yM} {T N t o : Nat} : gs m0 T N isE (t + 1) (o + 1) (some (p_into m0 t o)) := gs.of gm.into (fun _ _ _ e => (p_into_o e).2.1)
theorem gs.dec {m0 : yM} {T N t o : Nat} : gs m0 T N isE t o (pdec t (o + 1)) := gs.of gm.u (fun _ _ _ e => by simp only [Sum.inl.injEq, Prod.mk.injEq] at e; omega)
theorem gs.nn {m0 : yM} {T N t o : Nat} {P : List Nat → Prop} : gs m0 T N P t o none := fun _ _ _ e => by cases e
theorem gs.nd0 {m0 : yM} {T N k t oo : Nat} {P : List Nat → Prop} {r : Option PX} {kd p v : Int32} (h : gs m0 T N P t oo r) (hk : kd = nI k) (ho : ∀ ks, P ks → okN m0 T k v 0 ks) : gs m0 T (N + 1) (is1 k) t oo (pnode kd p v 0 r) := by
  intro t' o' G e
  obtain ⟨G1, e1, rfl⟩ := pnode_some e
  have a := h t' o' G1 e1
  refine ⟨a.1, a.2.1, fun hT => ?_⟩
  obtain ⟨v1, k1, p1, g1⟩ := a.2.2 hT
  refine ⟨v1.z, [k], rfl, GF.one ?_⟩
  rw [hk]
  exact g1.nd (ho _ p1)
theorem gs.ndv {m0 : yM} {T N k t vt oo : Nat} {P : List Nat → Prop} {r : Option PX} {kd p v : Int32} (h : gs m0 T N P vt oo r) (ht : t < vt) (hk : kd = nI k) (ho : ∀ ks, vt ≤ T → P ks → okN m0 T k v vt ks) : gs m0 T (N + 1) (is1 k) t oo (pnode kd p v vt r) := by
  intro t' o' G e
  obtain ⟨G1, e1, rfl⟩ := pnode_some e
  have a := h t' o' G1 e1
  refine ⟨a.1, by omega, fun hT => ?_⟩
  obtain ⟨v1, k1, p1, g1⟩ := a.2.2 hT
  refine ⟨v1.c ht a.2.1, [k], rfl, GF.one ?_⟩
  rw [hk]
  exact g1.nd (ho _ (by omega) p1)
abbrev isEx (ks : List Nat) : Prop := ∃ x, exK x ∧ ks = [x]
theorem gs.ex {m0 : yM} {T N t o : Nat} (ho : o ≤ 60) : gs m0 T (122 - 2 * o) isEx t o (exO m0 N t o) := by
  intro t' o' G e
  unfold exO at e
  rcases hr : pR m0 N 1 0 0 [] t o with _ | ⟨⟨t1, o1, G1⟩ | e1⟩
  · rw [hr] at e; cases e
  · rw [hr] at e
    simp only [Option.map_some, rst, Option.some.injEq, Sum.inl.injEq, Prod.mk.injEq] at e
    obtain ⟨rfl, rfl, rfl⟩ := e
    have a := (gRR (m0 := m0) (T := T) N).2.1 0 0 [] t o (by decide) ho _ _ _ hr
    have u := ubR m0 N _ _ _ _ _ _ _ _ _ hr ho
    refine ⟨rfl, a.1, fun hT => ?_⟩
    obtain ⟨v1, k1, h1, x1, y1, g1⟩ := a.2.2 hT
    exact ⟨v1, [k1], ⟨k1, x1, rfl⟩, GF.one (g1.mono (by omega))⟩
  · rw [hr] at e; cases e
/-- then a token that makes no node -/
theorem gs.s {m0 : yM} {T N t o : Nat} {P : List Nat → Prop} {r : Option PX} {k : Int32} (h : gs m0 T N P t o r) : gs m0 T N P t o (po r (fun t o => some (p_exp m0 k t o))) := (h.pp (fun _ _ _ => gs.exp)).w (Nat.le_refl _) (fun _ h => h.eR)
theorem gs.d {m0 : yM} {T N t o : Nat} {P : List Nat → Prop} {r : Option PX} (h : gs m0 T N P t (o + 1) r) : gs m0 T N P t o (po r pdec) := (h.pp (fun _ _ _ => gs.dec)).w (Nat.le_refl _) (fun _ h => h.eR)
theorem gs.i {m0 : yM} {T N t o o2 : Nat} {P : List Nat → Prop} {f : Nat → Nat → Option PX} (hf : o < 60 → ∀ t1, gs m0 T N P t1 o2 (f t1 (o + 1))) : gs m0 T N P (t + 1) o2 (po (some (p_into m0 t o)) f) := (gs.into.pp (fun t1 G e => hf (p_into_o (Option.some.inj e)).2.2.2 t1)).w (Nat.le_refl _) (fun _ h => h.eL)
theorem gs.st {m0 : yM} {T N t o o2 : Nat} {P : List Nat → Prop} {f : Nat → Nat → Option PX} (hf : ∀ t1, gs m0 T N P t1 o2 (f t1 o)) : gs m0 T N P (t + 1) o2 (po (some (p_step m0 t o)) f) := (gs.step.pp (fun t1 G e => hf t1)).w (Nat.le_refl _) (fun _ h => h.eL)
theorem gs.tgt {m0 : yM} {T N t o : Nat} (ho : o ≤ 60) (h64 : m0.1 9 t = 64) : gs m0 T (122 - 2 * o) (fun ks => ∃ a, (a = 6 ∨ a = 32) ∧ ks = [a]) t o (p_tgt m0 N t o) := by
  unfold p_tgt
  split
  · have a : gs m0 T (121 - 2 * o) isEx (t + 1) o (po (some (p_step m0 t o)) (fun t o => po (some (p_into m0 t o)) (fun t o => po (exO m0 N t o) (fun t o => po (some (p_exp m0 221 t o)) pdec)))) := by
      refine gs.st (fun t1 => (gs.i (fun lt t2 => ?_)).b (by omega))
      refine ((gs.ex (N := N) (t := t2) (show o + 1 ≤ 60 by omega)).n (N' := 121 - 2 * o) (by omega)).pp (fun t3 G _ => gs.d (P := isE) (r := some (p_exp m0 221 t3 (o + 1))) gs.exp) |>.w (Nat.le_refl _) (fun _ h => h.eR)
    exact (gs.ndv (k := 32) a (by omega) rfl (fun ks hT ⟨x, hx, e⟩ => ⟨⟨t, rfl, by omega, h64, rfl⟩, x, hx, e⟩)).w (by omega) (fun ks e => ⟨32, Or.inr rfl, e⟩)
  · exact (gs.of (gm.nm (k := 6) rfl (fun v vt h => ⟨h, rfl⟩)) (fun _ _ _ e => (lf_o e).2.1)).w (by omega) (fun ks e => ⟨6, Or.inl rfl, e⟩)
theorem gs.asgn {m0 : yM} {T N t o : Nat} (ho : o ≤ 60) (h64 : m0.1 9 t = 64) : gs m0 T (184 - 3 * o) (is1 12) t o (p_asgn m0 N t o) := by
  intro t' o' G e
  unfold p_asgn at e
  rcases hr : p_tgt m0 N t o with _ | ⟨⟨t1, o1, G1⟩ | e1⟩
  · rw [hr] at e; cases e
  · rw [hr] at e
    dsimp only at e
    obtain ⟨rfl, a1, a2⟩ := gs.tgt (T := T) ho h64 _ _ _ hr
    obtain ⟨G2, e2, rfl⟩ := pnode_some e
    rcases hz : po (some (p_exp m0 70 t1 o1)) (exO m0 N) with _ | ⟨⟨t2, o2, G3⟩ | e3⟩
    · rw [hz] at e2; cases e2
    · rw [hz] at e2
      simp only [Option.map_some, aft, Option.some.injEq, Sum.inl.injEq, Prod.mk.injEq] at e2
      obtain ⟨rfl, rfl, rfl⟩ := e2
      have b := (gs.pp (P := isE) (gs.exp (T := T) (N := 122 - 2 * o1) (m0 := m0) (t := t1) (o := o1) (k := 70)) (fun t2 G _ => gs.ex (N := N) (t := t2) ho)) _ _ _ hz
      refine ⟨b.1, by omega, fun hT => ?_⟩
      obtain ⟨v1, k1, ⟨a, ha, rfl⟩, g1⟩ := a2 (by omega)
      obtain ⟨v2, k2, p2, g2⟩ := b.2.2 hT
      obtain ⟨x, hx, rfl⟩ := p2.eL
      exact ⟨(v1.app v2 a1 b.2.1).z, [12], rfl, GF.one (((g1.app g2).nd (k := 12) ⟨rfl, a, x, ha, hx, rfl⟩).mono (by omega))⟩
    · rw [hz] at e2; simp [aft] at e2
  · rw [hr] at e; cases e
theorem gs.par1 {m0 : yM} {T N t o : Nat} (ho : o ≤ 60) : gs m0 T (123 - 2 * o) (is1 14) t o (p_par1 m0 N t o) := by
  unfold p_par1
  have a : gs m0 T (122 - 2 * o) (fun ks => isEx ks ∧ t < T ∧ m0.1 9 t = 64) (t + 1) o (po (some (p_exp m0 64 t o)) (fun t o => po (some (p_exp m0 70 t o)) (exO m0 N))) := by
    refine (gs.exp'.pp (fun t1 G _ => gs.exp.pp (fun t2 G _ => gs.ex (N := N) (t := t2) ho))).w (Nat.le_refl _) (fun ks h => ?_)
    obtain ⟨a, b, rfl, ⟨rfl, h2, h3⟩, h⟩ := h
    exact ⟨h.eL, h2, h3⟩
  exact (gs.ndv (k := 14) a (by omega) rfl (fun ks hT ⟨⟨x, hx, e⟩, h2, h3⟩ => ⟨⟨t, rfl, h2, h3, rfl⟩, x, hx, e⟩)).w (by omega) (fun ks e => e)
theorem gs.par {m0 : yM} {T N : Nat} {o : Nat} (ho : o ≤ 60) : ∀ n t, gs m0 T (123 - 2 * o) (al 14) t o (p_par m0 N n t o)
  | 0, t => gs.u.w (Nat.le_refl _) (fun ks e => al.nil e)
  | n + 1, t => by
    show gs m0 T (123 - 2 * o) (al 14) t o (if m0.1 9 t = 169 then some (.inl (t, o, [])) else po (some (if n + 1 = 8192 then .inl (t, o, []) else p_exp m0 172 t o)) (fun t o => po (p_par1 m0 N t o) (p_par m0 N n)))
    split
    · exact gs.u.w (Nat.le_refl _) (fun ks e => al.nil e)
    · have a : gs m0 T (123 - 2 * o) isE t o (some (if n + 1 = 8192 then .inl (t, o, []) else p_exp m0 172 t o)) := by
        split
        · exact gs.u
        · exact gs.exp
      refine (a.pp (fun t1 G _ => (gs.par1 (N := N) (t := t1) ho).pp (fun t2 G _ => gs.par ho n t2))).w (Nat.le_refl _) (fun ks h => ?_)
      obtain ⟨a, b, rfl, ha, hb⟩ := h.eL
      rw [show a = [14] from ha]
      exact (al.one 14).app hb
theorem gs.inv {m0 : yM} {T N t o : Nat} (ho : o ≤ 60) (h64 : m0.1 9 t = 64) : gs m0 T (184 - 3 * o) (is1 13) t o (p_inv m0 N t o) := by
  unfold p_inv
  have a : gs m0 T (121 - 2 * o) (al 14) (t + 1) o (po (some (p_step m0 t o)) (fun t o => po (some (p_into m0 t o)) (fun t o => po (p_par m0 N 8192 t o) (fun t o => po (some (p_exp m0 169 t o)) pdec)))) := by
    refine gs.st (fun t1 => (gs.i (fun lt t2 => ?_)).b (by omega))
    refine ((gs.par (N := N) (show o + 1 ≤ 60 by omega) 8192 t2).n (N' := 121 - 2 * o) (by omega)).pp (fun t3 G _ => gs.d (P := isE) (r := some (p_exp m0 169 t3 (o + 1))) gs.exp) |>.w (Nat.le_refl _) (fun _ h => h.eR)
  exact (gs.ndv (k := 13) a (by omega) rfl (fun ks hT h => ⟨⟨t, rfl, by omega, h64, rfl⟩, h⟩)).w (by omega) (fun ks e => e)
abbrev ifK (ks : List Nat) : Prop := ∃ es : List Nat, (∀ x, x ∈ es → exK x) ∧ ks = es.flatMap (fun e => [e, 11])
/-- modes as of pS -/
def gS (m0 : yM) (T : Nat) (rc : SR) : Prop := (∀ t o, o ≤ 60 → gs m0 T (185 - 3 * o) (is1 11) t o (rc 0 0 t o)) ∧ (∀ q t o, o ≤ 60 → gs m0 T (184 - 3 * o) (fun ks => ∀ x, x ∈ ks → stK x) t o (rc 1 q t o)) ∧ (∀ t o, o ≤ 60 → gs m0 T (184 - 3 * o) (fun ks => ∀ x, x ∈ ks → stK x) t o (rc 2 0 t o)) ∧ (∀ t o, o ≤ 60 → gs m0 T (184 - 3 * o) (is1 15) t o (rc 3 0 t o)) ∧ (∀ q t o, o ≤ 60 → gs m0 T (185 - 3 * o) ifK t o (rc 4 q t o)) ∧ (∀ t o, o ≤ 60 → gs m0 T (184 - 3 * o) (is1 16) t o (rc 5 0 t o)) ∧ (∀ q t o, o ≤ 60 → gs m0 T (186 - 3 * o) (al 17) t o (rc 6 q t o)) ∧ (∀ t o, o ≤ 60 → gs m0 T (184 - 3 * o) (is1 19) t o (rc 7 0 t o))
theorem stK.nil {ks : List Nat} (e : ks = []) : ∀ x, x ∈ ks → stK x := fun x hx => by rw [e] at hx; simp at hx
theorem stK.one {ks : List Nat} {k : Nat} (hk : stK k) (e : ks = [k]) : ∀ x, x ∈ ks → stK x := fun x hx => by rw [e] at hx; rw [List.mem_singleton.mp hx]; exact hk
theorem gs.els {m0 : yM} {T t o : Nat} {rc : SR} (h : gS m0 T rc) (ho : o ≤ 60) : gs m0 T (185 - 3 * o) elsK t o (p_else m0 rc t o) := by
  unfold p_else
  split
  · exact ((gs.st (fun t1 => h.1 t1 o ho)).b (by omega)).w (Nat.le_refl _) (fun ks e => Or.inr e)
  · exact gs.u.w (Nat.le_refl _) (fun ks e => Or.inl e)
theorem gSs {m0 : yM} {T N : Nat} {rc : SR} (h : gS m0 T rc) : gS m0 T (pS m0 N rc) := by
  have hh := h
  obtain ⟨h0, h1, h2, h3, h4, h5, h6, h7⟩ := h
  refine ⟨fun t o ho => ?_, fun q t o ho => ?_, fun t o ho => ?_, fun t o ho => ?_, fun q t o ho => ?_, fun t o ho => ?_, fun q t o ho => ?_, fun t o ho => ?_⟩
  · show gs m0 T (185 - 3 * o) (is1 11) t o (pnode 11 (if t = 0 then 0 else m0.1 10 (t - 1)) 0 0 (rc 1 8192 t o))
    exact (gs.nd0 (k := 11) (h1 8192 t o ho) rfl (fun ks h => ⟨rfl, h⟩)).n (by omega)
  · show gs m0 T (184 - 3 * o) _ t o (if q = 0 then unit_ t o else if stS (m0.1 9 t) then po (rc 2 0 t o) (rc 1 (q - 1)) else unit_ t o)
    split
    · exact gs.u.w (Nat.le_refl _) (fun ks e => stK.nil e)
    · split
      · refine ((h2 t o ho).pp (fun t1 G _ => h1 (q - 1) t1 o ho)).w (Nat.le_refl _) (fun ks h => ?_)
        obtain ⟨a, b, rfl, ha, hb⟩ := h
        exact fun x hx => (List.mem_append.mp hx).elim (ha x) (hb x)
      · exact gs.u.w (Nat.le_refl _) (fun ks e => stK.nil e)
  · show gs m0 T (184 - 3 * o) _ t o (po (p_st m0 N rc t o) (fun t o => some (p_exp m0 187 t o)))
    refine gs.s ?_
    unfold p_st
    split
    · exact (h3 t o ho).w (Nat.le_refl _) (fun ks e => stK.one (by omega) e)
    · split
      · exact (h5 t o ho).w (Nat.le_refl _) (fun ks e => stK.one (by omega) e)
      · split
        · exact (h7 t o ho).w (Nat.le_refl _) (fun ks e => stK.one (by omega) e)
        · split
          · exact (gs.of (gm.lf (k := 20) rfl (fun _ _ => ⟨rfl, rfl⟩)) (fun _ _ _ e => (lf_o e).2.1)).w (by omega) (fun ks e => stK.one (by omega) e)
          · split
            · exact (gs.of (gm.lf (k := 21) rfl (fun _ _ => ⟨rfl, rfl⟩)) (fun _ _ _ e => (lf_o e).2.1)).w (by omega) (fun ks e => stK.one (by omega) e)
            · split
              · rename_i z
                split
                · exact (gs.inv ho z).w (Nat.le_refl _) (fun ks e => stK.one (by omega) e)
                · exact (gs.asgn ho z).w (Nat.le_refl _) (fun ks e => stK.one (by omega) e)
              · exact gs.u.w (Nat.le_refl _) (fun ks e => stK.nil e)
  · show gs m0 T (184 - 3 * o) (is1 15) t o (pnode 15 (m0.1 10 t) 0 0 (po (po (po (po (po (po (po (some (p_into m0 t o)) (exO m0 N)) (fun t o => some (p_exp m0 17 t o))) (rc 0 0)) (rc 4 8192)) (p_else m0 rc)) (fun t o => some (p_exp m0 20 t o))) pdec))
    by_cases lt : o < 60
    · have a0 : gs m0 T (182 - 3 * o) isEx t (o + 1) (po (some (p_into m0 t o)) (exO m0 N)) := (gs.i (fun lt t1 => (gs.ex (N := N) (t := t1) (show o + 1 ≤ 60 by omega)).n (by omega))).b (by omega)
      have a := ((((a0.s (k := 17)).pp (fun t1 G _ => (h0 t1 (o + 1) (by omega)).n (N' := 182 - 3 * o) (by omega))).pp (fun t1 G _ => (h4 8192 t1 (o + 1) (by omega)).n (N' := 182 - 3 * o) (by omega))).pp (fun t1 G _ => (gs.els hh (t := t1) (show o + 1 ≤ 60 by omega)).n (N' := 182 - 3 * o) (by omega))).s (k := 20) |>.d
      refine (gs.nd0 (k := 15) a rfl (fun ks h => ?_)).n (by omega)
      obtain ⟨a, s, rfl, ⟨a, b, rfl, ⟨a, b2, rfl, ⟨x, hx, rfl⟩, rfl⟩, ⟨es, hes, rfl⟩⟩, hs⟩ := h
      exact ⟨rfl, x :: es, s, fun y hy => (List.mem_cons.mp hy).elim (fun e => by rw [e]; exact hx) (hes y), by simp, hs, by simp⟩
    · intro t' o' G e
      obtain ⟨G1, e1, rfl⟩ := pnode_some e
      have hi : p_into m0 t o = p_ref m0 7 t := by unfold p_into; rw [if_neg lt]
      rw [hi] at e1
      cases e1
  · show gs m0 T (185 - 3 * o) ifK t o (if q = 0 then unit_ t o else if m0.1 9 t = 18 then po (po (po (po (some (p_step m0 t o)) (exO m0 N)) (fun t o => some (p_exp m0 17 t o))) (rc 0 0)) (rc 4 (q - 1)) else unit_ t o)
    split
    · exact gs.u.w (Nat.le_refl _) (fun ks e => ⟨[], fun x hx => by simp at hx, by rw [e]; rfl⟩)
    · split
      · have a0 : gs m0 T (185 - 3 * o) isEx t o (po (some (p_step m0 t o)) (exO m0 N)) := (gs.st (fun t1 => (gs.ex (N := N) (t := t1) ho).n (by omega))).b (by omega)
        have a := ((a0.s (k := 17)).pp (fun t1 G _ => h0 t1 o ho)).pp (fun t1 G _ => h4 (q - 1) t1 o ho)
        refine a.w (Nat.le_refl _) (fun ks h => ?_)
        obtain ⟨a, b, rfl, ⟨a, b2, rfl, ⟨x, hx, rfl⟩, rfl⟩, ⟨es, hes, rfl⟩⟩ := h
        exact ⟨x :: es, fun y hy => (List.mem_cons.mp hy).elim (fun e => by rw [e]; exact hx) (hes y), by simp⟩
      · exact gs.u.w (Nat.le_refl _) (fun ks e => ⟨[], fun x hx => by simp at hx, by rw [e]; rfl⟩)
  · show gs m0 T (184 - 3 * o) (is1 16) t o (pnode 16 (m0.1 10 t) 0 0 (po (po (po (po (po (po (some (p_into m0 t o)) (exO m0 N)) (fun t o => some (p_exp m0 15 t o))) (rc 6 8192)) (p_else m0 rc)) (fun t o => some (p_exp m0 22 t o))) pdec))
    by_cases lt : o < 60
    · have a0 : gs m0 T (183 - 3 * o) isEx t (o + 1) (po (some (p_into m0 t o)) (exO m0 N)) := (gs.i (fun lt t1 => (gs.ex (N := N) (t := t1) (show o + 1 ≤ 60 by omega)).n (by omega))).b (by omega)
      have a := (((a0.s (k := 15)).pp (fun t1 G _ => (h6 8192 t1 (o + 1) (by omega)).n (N' := 183 - 3 * o) (by omega))).pp (fun t1 G _ => (gs.els hh (t := t1) (show o + 1 ≤ 60 by omega)).n (N' := 183 - 3 * o) (by omega))).s (k := 22) |>.d
      refine (gs.nd0 (k := 16) a rfl (fun ks h => ?_)).n (by omega)
      obtain ⟨a, s, rfl, ⟨a, b, rfl, ⟨x, hx, rfl⟩, hc⟩, hs⟩ := h
      exact ⟨rfl, x, b, s, hx, hc, hs, by simp⟩
    · intro t' o' G e
      obtain ⟨G1, e1, rfl⟩ := pnode_some e
      have hi : p_into m0 t o = p_ref m0 7 t := by unfold p_into; rw [if_neg lt]
      rw [hi] at e1
      cases e1
  · show gs m0 T (186 - 3 * o) (al 17) t o (if q = 0 then unit_ t o else if stC (m0.1 9 t) then po (pnode 17 (m0.1 10 t) 0 0 (po (po (some (p_rng m0 8192 t o)) (fun t o => some (p_exp m0 186 t o))) (rc 0 0))) (rc 6 (q - 1)) else unit_ t o)
    split
    · exact gs.u.w (Nat.le_refl _) (fun ks e => al.nil e)
    · split
      · have a0 : gs m0 T (185 - 3 * o) _ t o (some (p_rng m0 8192 t o)) := (gs.of (gm.rng 8192 t o) (fun _ _ _ e => p_rng_o e)).n (by omega)
        have a := (a0.s (k := 186)).pp (fun t1 G _ => h0 t1 o ho)
        have b := (gs.nd0 (k := 17) (kd := 17) (p := m0.1 10 t) (v := 0) a rfl (fun ks h => by
          obtain ⟨a, b, rfl, ⟨h1, h2, h3⟩, rfl⟩ := h
          exact ⟨rfl, a, h1, h2 (by decide), rfl, h3⟩)).n (N' := 186 - 3 * o) (by omega)
        refine (b.pp (fun t1 G _ => h6 (q - 1) t1 o ho)).w (Nat.le_refl _) (fun ks h => ?_)
        obtain ⟨a, b, rfl, rfl, h⟩ := h
        exact (al.one 17).app h
      · exact gs.u.w (Nat.le_refl _) (fun ks e => al.nil e)
  · show gs m0 T (184 - 3 * o) (is1 19) t o (match p_into m0 t o with
      | .inr e => some (.inr e)
      | .inl (t1, o1, _) => pnode 19 (m0.1 10 t) (m0.1 11 t1) (t1 + 1) (po (po (po (some (p_bind (p_bind (p_bind (p_bind (p_bind (p_bind (p_exp m0 64 t1 o1) (p_exp m0 70)) (p_const m0)) (p_exp m0 24)) (p_const m0)) (p_if m0 25 (fun t o => p_bind (p_step m0 t o) (p_const m0)))) (p_exp m0 26))) (rc 0 0)) (fun t o => some (p_exp m0 27 t o))) pdec))
    rcases hi : p_into m0 t o with ⟨t1, o1, G1⟩ | e1
    · dsimp only
      obtain ⟨rfl, rfl, rfl, lt⟩ := p_into_o hi
      have c := (((((gm.exp' (m0 := m0) (T := T) (N := 1) (t := t + 1) (o := o + 1) (k := 64)).s (k := 70)).bind (f := p_const m0) (fun _ _ => gm.const)).s (k := 24)).bind (f := p_const m0) (fun _ _ => gm.const)).bind (fun t1 o1 => gm.pif (c := 25) (t := t1) (o := o1) (f := fun t o => p_bind (p_step m0 t o) (p_const m0)) ((gm.st (f := p_const m0) (fun _ _ => gm.const)).b (by omega))) |>.s (k := 26)
      have co : ∀ t' o' G, p_bind (p_bind (p_bind (p_bind (p_bind (p_bind (p_exp m0 64 (t + 1) (o + 1)) (p_exp m0 70)) (p_const m0)) (p_exp m0 24)) (p_const m0)) (p_if m0 25 (fun t o => p_bind (p_step m0 t o) (p_const m0)))) (p_exp m0 26) = .inl (t', o', G) → o' = o + 1 := by
        intro t' o' G e
        obtain ⟨_, _, _, _, e1, e2⟩ := p_bind_ex e
        obtain ⟨_, _, _, _, e3, e4⟩ := p_bind_ex e1
        obtain ⟨_, _, _, _, e5, e6⟩ := p_bind_ex e3
        obtain ⟨_, _, _, _, e7, e8⟩ := p_bind_ex e5
        obtain ⟨_, _, _, _, e9, e10⟩ := p_bind_ex e7
        obtain ⟨_, _, _, _, e11, e12⟩ := p_bind_ex e9
        have a1 := (p_exp_o e11).2.1
        have a2 := (p_exp_o e12).2.1
        have a3 := p_const_o e10
        have a4 := (p_exp_o e8).2.1
        have a5 := p_const_o e6
        have a7 := (p_exp_o e2).2.1
        unfold p_if at e4
        split at e4
        · obtain ⟨_, _, _, _, e13, e14⟩ := p_bind_ex e4
          have a8 := (p_step_o e13).2.1
          have a9 := p_const_o e14
          omega
        · simp only [Sum.inl.injEq, Prod.mk.injEq] at e4
          omega
      have a := ((((gs.of c co).n (N' := 182 - 3 * o) (by omega)).pp (fun t1 G _ => (h0 t1 (o + 1) (by omega)).n (N' := 182 - 3 * o) (by omega))).s (k := 27)).d
      refine (gs.ndv (k := 19) a (by omega) rfl (fun ks hT h => ?_)).n (by omega)
      obtain ⟨a, b, rfl, ⟨a, s, rfl, ⟨a, b2, rfl, ⟨a, b3, rfl, ⟨rfl, h2, h3⟩, ⟨x, hx, rfl⟩⟩, ⟨y, hy, rfl⟩⟩, hs⟩, rfl⟩ := h
      exact ⟨⟨t + 1, rfl, h2, h3, rfl⟩, x, y, s, hx, hy, hs, by simp⟩
    · intro t' o' G e
      cases e
theorem gTT {m0 : yM} {T N : Nat} : ∀ n, gS m0 T (pT m0 N n)
  | 0 => ⟨fun _ _ _ => gs.nn, fun _ _ _ _ => gs.nn, fun _ _ _ => gs.nn, fun _ _ _ => gs.nn, fun _ _ _ _ => gs.nn, fun _ _ _ => gs.nn, fun _ _ _ _ => gs.nn, fun _ _ _ => gs.nn⟩
  | n + 1 => gSs (gTT n)
abbrev isBd (ks : List Nat) : Prop := ∃ b, (b = 11 ∨ b = 22) ∧ ks = [b]
/-- what is open does not matter here -/
def gmo (m0 : yM) (T N : Nat) (P : List Nat → Prop) (t : Nat) (r : Option PX) : Prop := ∀ X, r = some X → gm m0 T N P t X
theorem gmo.pp {m0 : yM} {T N t : Nat} {P P' : List Nat → Prop} {r : Option PX} {f : Nat → Nat → Option PX} (h : gmo m0 T N P t r) (hf : ∀ t1 o1 G, r = some (.inl (t1, o1, G)) → gmo m0 T N P' t1 (f t1 o1)) : gmo m0 T N (cat P P') t (po r f) := by
  intro X e t' o' G hX
  subst hX
  obtain ⟨t1, o1, G1, G2, e1, e2, rfl⟩ := po_some e
  have a := h _ e1 t1 o1 G1 rfl
  have b := hf t1 o1 G1 e1 _ e2 t' o' G2 rfl
  refine ⟨by omega, fun hT => ?_⟩
  obtain ⟨v1, k1, p1, g1⟩ := a.2 (by omega)
  obtain ⟨v2, k2, p2, g2⟩ := b.2 hT
  exact ⟨v1.app v2 a.1 b.1, k1 ++ k2, ⟨k1, k2, rfl, p1, p2⟩, g1.app g2⟩
theorem gmo.s {m0 : yM} {T N t : Nat} {P : List Nat → Prop} {X : PX} (h : gm m0 T N P t X) : gmo m0 T N P t (some X) := fun Y e => by rw [← Option.some.inj e]; exact h
theorem gmo.of {m0 : yM} {T N t oo : Nat} {P : List Nat → Prop} {r : Option PX} (h : gs m0 T N P t oo r) : gmo m0 T N P t r := fun X e t' o' G hX => by
  subst hX
  exact (h _ _ _ e).2
theorem gmo.bdy {m0 : yM} {T N n t o : Nat} (ho : o ≤ 60) : gmo m0 T 185 isBd t (p_bdy m0 N n t o) := by
  unfold p_bdy
  split
  · exact gmo.s (gm.lad.w (by omega) (fun ks e => ⟨22, Or.inr rfl, e⟩))
  · exact gmo.of (((gTT n).1 t o ho).w (by omega) (fun ks e => ⟨11, Or.inl rfl, e⟩))
theorem p_simple_o {m0 : yM} {t o t' o' : Nat} {G : List ND} (h : p_simple m0 t o = .inl (t', o', G)) : o' = o := by
  unfold p_simple at h
  split at h
  · cases h
  · obtain ⟨_, e3, -⟩ := p_node_o h
    exact (p_step_o e3).2.1
theorem p_decl_o {m0 : yM} {t o t' o' : Nat} {G : List ND} (h : p_decl m0 t o = .inl (t', o', G)) : o' = o := by
  have nm : ∀ n t o t' o' G, p_names m0 n t o = .inl (t', o', G) → o' = o := by
    intro n
    induction n with
    | zero => intro t o t' o' G e; have e : (Sum.inl (t, o, []) : PX) = .inl (t', o', G) := e; simp only [Sum.inl.injEq, Prod.mk.injEq] at e; omega
    | succ n ih =>
      intro t o t' o' G e
      rw [p_names_s] at e
      split at e
      · obtain ⟨_, _, _, _, e1, e2⟩ := p_bind_ex e
        obtain ⟨_, _, _, _, e3, e4⟩ := p_bind_ex e1
        have a1 := ih _ _ _ _ _ e2
        have a2 := (p_step_o e3).2.1
        have a3 := (lf_o e4).2.1
        omega
      · simp only [Sum.inl.injEq, Prod.mk.injEq] at e; omega
  unfold p_decl at h
  obtain ⟨_, h, -⟩ := p_node_o h
  obtain ⟨_, _, _, _, e1, e2⟩ := p_bind_ex h
  obtain ⟨_, _, _, _, e3, e4⟩ := p_bind_ex e1
  obtain ⟨_, _, _, _, e5, e6⟩ := p_bind_ex e3
  obtain ⟨_, _, _, _, e7, e8⟩ := p_bind_ex e5
  obtain ⟨_, _, _, _, e9, e10⟩ := p_bind_ex e7
  obtain ⟨_, _, _, _, e11, e12⟩ := p_bind_ex e9
  have a1 := (p_exp_o e2).2.1
  have a8 := (p_exp_o e8).2.1
  have a11 := (lf_o e11).2.1
  have a12 := nm _ _ _ _ _ _ e12
  have a4 : ∀ {t o t' o' G}, p_init m0 t o = .inl (t', o', G) → o' = o := by
    intro t o t' o' G e
    unfold p_init at e
    split at e
    · obtain ⟨_, _, _, _, e1, e2⟩ := p_bind_ex e
      have b1 := (p_step_o e1).2.1
      have b2 := p_const_o e2
      omega
    · simp only [Sum.inl.injEq, Prod.mk.injEq] at e; omega
  have a10 : ∀ {t o t' o' G}, p_at m0 t o = .inl (t', o', G) → o' = o := by
    intro t o t' o' G e
    unfold p_at at e
    split at e
    · obtain ⟨_, _, _, _, e1, e2⟩ := p_bind_ex e
      have b1 := (p_step_o e1).2.1
      have b2 := (lf_o e2).2.1
      omega
    · simp only [Sum.inl.injEq, Prod.mk.injEq] at e; omega
  have a6 : ∀ {t o t' o' G}, p_type m0 t o = .inl (t', o', G) → o' = o := by
    intro t o t' o' G e
    unfold p_type at e
    split at e
    · obtain ⟨_, e, -⟩ := p_node_o e
      obtain ⟨_, _, _, _, c1, c2⟩ := p_bind_ex e
      obtain ⟨_, _, _, _, c3, c4⟩ := p_bind_ex c1
      obtain ⟨_, _, _, _, c5, c6⟩ := p_bind_ex c3
      obtain ⟨_, _, _, _, c7, c8⟩ := p_bind_ex c5
      obtain ⟨_, _, _, _, c9, c10⟩ := p_bind_ex c7
      obtain ⟨_, _, _, _, c11, c12⟩ := p_bind_ex c9
      obtain ⟨_, _, _, _, c13, c14⟩ := p_bind_ex c11
      have b1 := p_simple_o c2
      have b2 := (p_exp_o c4).2.1
      have b3 := (p_exp_o c6).2.1
      have b4 := p_const_o c8
      have b5 := (p_exp_o c10).2.1
      have b6 := p_const_o c12
      have b7 := (p_exp_o c14).2.1
      have b8 := (p_step_o c13).2.1
      omega
    · split at e
      · exact (lf_o e).2.1
      · exact p_simple_o e
  have := a4 e4
  have := a10 e10
  have := a6 e6
  omega
theorem p_sects_o {m0 : yM} : ∀ n t o t' o' G, p_sects m0 n t o = .inl (t', o', G) → o' = o := by
  have dc : ∀ n t o t' o' G, p_decls m0 n t o = .inl (t', o', G) → o' = o := by
    intro n
    induction n with
    | zero => intro t o t' o' G e; have e : (Sum.inl (t, o, []) : PX) = .inl (t', o', G) := e; simp only [Sum.inl.injEq, Prod.mk.injEq] at e; omega
    | succ n ih =>
      intro t o t' o' G e
      rw [p_decls_s] at e
      split at e
      · obtain ⟨_, _, _, _, e1, e2⟩ := p_bind_ex e
        have a1 := ih _ _ _ _ _ e2
        have a2 := p_decl_o e1
        omega
      · simp only [Sum.inl.injEq, Prod.mk.injEq] at e; omega
  intro n
  induction n with
  | zero => intro t o t' o' G e; have e : (Sum.inl (t, o, []) : PX) = .inl (t', o', G) := e; simp only [Sum.inl.injEq, Prod.mk.injEq] at e; omega
  | succ n ih =>
    intro t o t' o' G e
    rw [p_sects_s] at e
    split at e
    · simp only [Sum.inl.injEq, Prod.mk.injEq] at e; omega
    · obtain ⟨_, _, _, _, e1, e2⟩ := p_bind_ex e
      have a1 := ih _ _ _ _ _ e2
      unfold p_sect at e1
      obtain ⟨_, e1, -⟩ := p_node_o e1
      obtain ⟨_, _, _, _, e3, e4⟩ := p_bind_ex e1
      obtain ⟨_, _, _, _, e5, e6⟩ := p_bind_ex e3
      have b1 := (p_exp_o e4).2.1
      have b2 := (p_step_o e5).2.1
      have b3 := dc _ _ _ _ _ _ e6
      omega
theorem lad_o {m0 : yM} {t o t' o' : Nat} {G : List ND} (h : p_lad m0 t o = .inl (t', o', G)) : o' = o := by
  have nm : ∀ {t o t' o' G}, p_nm m0 t o = .inl (t', o', G) → o' = o := fun e => (lf_o e).2.1
  have ot : ∀ {t o t' o' G}, p_out m0 t o = .inl (t', o', G) → o' = o := by
    intro t o t' o' G e
    unfold p_out at e
    split at e
    · obtain ⟨_, e, -⟩ := p_node_o e
      obtain ⟨_, _, _, _, e1, e2⟩ := p_bind_ex e
      obtain ⟨_, _, _, _, e3, e4⟩ := p_bind_ex e1
      have a1 := nm e2
      have a2 := (p_step_o e3).2.1
      have a3 := (p_step_o e4).2.1
      omega
    · exact nm e
  have ws : ∀ {w t o t' o' G}, p_wst m0 w t o = .inl (t', o', G) → o' = o := by
    intro w t o t' o' G e
    unfold p_wst at e
    split at e
    · simp only [Sum.inl.injEq, Prod.mk.injEq] at e; omega
    · exact (p_step_o e).2.1
  have cl : ∀ {t o t' o' G}, p_cell m0 t o = .inl (t', o', G) → o' = o := by
    intro t o t' o' G e
    unfold p_cell at e
    split at e
    · exact (lf_o e).2.1
    · split at e
      · exact (lf_o e).2.1
      · split at e
        · rcases hs : p_step m0 t o with ⟨u, o1, G1⟩ | e1
          · rw [hs] at e
            dsimp only at e
            obtain ⟨_, e, -⟩ := p_node_o e
            obtain ⟨_, _, _, _, e1, e2⟩ := p_bind_ex e
            obtain ⟨_, _, _, _, e3, e4⟩ := p_bind_ex e1
            have a1 := (p_step_o hs).2.1
            have a2 := (p_exp_o e2).2.1
            have a3 := ws e3
            have a4 := nm e4
            omega
          · rw [hs] at e; cases e
        · obtain ⟨_, e, -⟩ := p_node_o e
          obtain ⟨_, _, _, _, e1, e2⟩ := p_bind_ex e
          have a1 := ws e1
          have a2 := ot e2
          omega
  have cs : ∀ n t o t' o' G, p_cells m0 n t o = .inl (t', o', G) → o' = o := by
    intro n
    induction n with
    | zero => intro t o t' o' G e; have e : (Sum.inl (t, o, []) : PX) = .inl (t', o', G) := e; simp only [Sum.inl.injEq, Prod.mk.injEq] at e; omega
    | succ n ih =>
      intro t o t' o' G e
      have e : (if m0.1 9 t = 252 then p_bind (p_bind (p_node 29 (m0.1 10 t) 0 0 (p_step m0 t o)) (p_cell m0)) (p_cells m0 n) else if stL (m0.1 9 t) then p_bind (p_cell m0 t o) (p_cells m0 n) else .inl (t, o, [])) = .inl (t', o', G) := e
      split at e
      · obtain ⟨_, _, _, _, e1, e2⟩ := p_bind_ex e
        obtain ⟨_, _, _, _, e3, e4⟩ := p_bind_ex e1
        obtain ⟨_, e3, -⟩ := p_node_o e3
        have a1 := ih _ _ _ _ _ e2
        have a2 := (p_step_o e3).2.1
        have a3 := cl e4
        omega
      · split at e
        · obtain ⟨_, _, _, _, e1, e2⟩ := p_bind_ex e
          have a1 := ih _ _ _ _ _ e2
          have a3 := cl e1
          omega
        · simp only [Sum.inl.injEq, Prod.mk.injEq] at e; omega
  have rw_ : ∀ {t o t' o' G}, p_row m0 t o = .inl (t', o', G) → o' = o := by
    intro t o t' o' G e
    unfold p_row at e
    obtain ⟨_, e, -⟩ := p_node_o e
    obtain ⟨_, _, _, _, e1, e2⟩ := p_bind_ex e
    obtain ⟨_, _, _, _, e3, e4⟩ := p_bind_ex e1
    have a1 := (p_exp_o e2).2.1
    have a2 := cl e3
    have a3 := cs _ _ _ _ _ _ e4
    omega
  have rs : ∀ n t o t' o' G, p_rows m0 n t o = .inl (t', o', G) → o' = o := by
    intro n
    induction n with
    | zero => intro t o t' o' G e; have e : (Sum.inl (t, o, []) : PX) = .inl (t', o', G) := e; simp only [Sum.inl.injEq, Prod.mk.injEq] at e; omega
    | succ n ih =>
      intro t o t' o' G e
      have e : (if stL (m0.1 9 t) then p_bind (p_row m0 t o) (p_rows m0 n) else .inl (t, o, [])) = .inl (t', o', G) := e
      split at e
      · obtain ⟨_, _, _, _, e1, e2⟩ := p_bind_ex e
        have a1 := ih _ _ _ _ _ e2
        have a3 := rw_ e1
        omega
      · simp only [Sum.inl.injEq, Prod.mk.injEq] at e; omega
  have ru : ∀ n t o t' o' G, p_rungs m0 n t o = .inl (t', o', G) → o' = o := by
    intro n
    induction n with
    | zero => intro t o t' o' G e; have e : (Sum.inl (t, o, []) : PX) = .inl (t', o', G) := e; simp only [Sum.inl.injEq, Prod.mk.injEq] at e; omega
    | succ n ih =>
      intro t o t' o' G e
      have e : (if m0.1 9 t = 39 then p_bind (p_rung m0 t o) (p_rungs m0 n) else .inl (t, o, [])) = .inl (t', o', G) := e
      split at e
      · obtain ⟨_, _, _, _, e1, e2⟩ := p_bind_ex e
        have a1 := ih _ _ _ _ _ e2
        unfold p_rung at e1
        obtain ⟨_, e1, -⟩ := p_node_o e1
        obtain ⟨_, _, _, _, e3, e4⟩ := p_bind_ex e1
        obtain ⟨_, _, _, _, e5, e6⟩ := p_bind_ex e3
        obtain ⟨_, _, _, _, e7, e8⟩ := p_bind_ex e5
        have b1 := (p_exp_o e4).2.1
        have b2 := rs _ _ _ _ _ _ e6
        have b3 := (p_step_o e7).2.1
        have b4 := rw_ e8
        omega
      · simp only [Sum.inl.injEq, Prod.mk.injEq] at e; omega
  unfold p_lad at h
  obtain ⟨_, h, -⟩ := p_node_o h
  obtain ⟨_, _, _, _, e1, e2⟩ := p_bind_ex h
  obtain ⟨_, _, _, _, e3, e4⟩ := p_bind_ex e1
  have a1 := (p_exp_o e2).2.1
  have a2 := (p_step_o e3).2.1
  have a3 := ru _ _ _ _ _ _ e4
  omega
