/-! THE REFERENCE'S READER: expressions, pure -/
/-- never more than 60 are open -/
def ubP (m0 : yM) (rc : Nat → Int32 → Nat → List ND → Nat → Nat → Option PX) : Prop := ∀ md c q L t o t' o' G, rc md c q L t o = some (.inl (t', o', G)) → o ≤ 60 → o' ≤ 60
theorem ubN_ {m0 : yM} {rc : Nat → Int32 → Nat → List ND → Nat → Nat → Option PX} (h : ubP m0 rc) {t o t' o' : Nat} {G : List ND} (e : pNm m0 rc t o = some (.inl (t', o', G))) (ho : o ≤ 60) : o' ≤ 60 := by
  unfold pNm at e
  split at e
  · obtain ⟨G1, e, -⟩ := pnode_some e
    obtain ⟨t1, o1, _, _, e1, e, -⟩ := po_some e
    obtain ⟨t2, o2, _, _, e2, e, -⟩ := po_some e
    obtain ⟨t3, o3, _, _, e3, e, -⟩ := po_some e
    obtain ⟨t4, o4, _, _, e4, e, -⟩ := po_some e
    have a1 := p_step_o (Option.some.inj e1)
    have a2 := p_into_o (Option.some.inj e2)
    have a3 := h _ _ _ _ _ _ _ _ _ e3
    have a4 := p_exp_o (Option.some.inj e4)
    simp only [pdec, Option.some.injEq, Sum.inl.injEq, Prod.mk.injEq] at e
    omega
  · split at e
    · obtain ⟨G1, e, -⟩ := pnode_some e
      obtain ⟨t1, o1, _, _, e1, e, -⟩ := po_some e
      obtain ⟨t2, o2, _, _, e2, e, -⟩ := po_some e
      have a1 := p_step_o (Option.some.inj e1)
      have a2 := p_step_o (Option.some.inj e2)
      have a3 := p_leaf_o (Option.some.inj e)
      omega
    · split at e
      · obtain ⟨G1, e, -⟩ := pnode_some e
        obtain ⟨t1, o1, _, _, e1, e, -⟩ := po_some e
        obtain ⟨t2, o2, _, _, e2, e, -⟩ := po_some e
        obtain ⟨t3, o3, _, _, e3, e, -⟩ := po_some e
        obtain ⟨t4, o4, _, _, e4, e, -⟩ := po_some e
        have a1 := p_step_o (Option.some.inj e1)
        have a2 := p_into_o (Option.some.inj e2)
        have a3 := h _ _ _ _ _ _ _ _ _ e3
        have a4 := p_exp_o (Option.some.inj e4)
        simp only [pdec, Option.some.injEq, Sum.inl.injEq, Prod.mk.injEq] at e
        omega
      · obtain ⟨G1, e, -⟩ := pnode_some e
        have a1 := p_step_o (Option.some.inj e)
        omega
theorem ubE {m0 : yM} {rc : Nat → Int32 → Nat → List ND → Nat → Nat → Option PX} (h : ubP m0 rc) : ubP m0 (pE m0 rc) := by
  intro md c q L t o t' o' G e ho
  unfold pE at e
  split at e
  · split at e
    · obtain ⟨G1, e, -⟩ := pnode_some e
      obtain ⟨t1, o1, _, _, e1, e, -⟩ := po_some e
      obtain ⟨t2, o2, _, _, e2, e, -⟩ := po_some e
      have a1 := p_into_o (Option.some.inj e1)
      have a2 := h _ _ _ _ _ _ _ _ _ e2
      simp only [pdec, Option.some.injEq, Sum.inl.injEq, Prod.mk.injEq] at e
      omega
    · split at e
      · obtain ⟨t1, o1, _, _, e1, e, -⟩ := po_some e
        obtain ⟨t2, o2, _, _, e2, e, -⟩ := po_some e
        obtain ⟨t3, o3, _, _, e3, e, -⟩ := po_some e
        have a1 := p_into_o (Option.some.inj e1)
        have a2 := h _ _ _ _ _ _ _ _ _ e2
        have a3 := p_exp_o (Option.some.inj e3)
        simp only [pdec, Option.some.injEq, Sum.inl.injEq, Prod.mk.injEq] at e
        omega
      · split at e
        · have := p_leaf_o (Option.some.inj e); omega
        · split at e
          · have := p_leaf_o (Option.some.inj e); omega
          · split at e
            · have := p_leaf_o (Option.some.inj e); omega
            · split at e
              · exact ubN_ h e ho
              · cases (Option.some.inj e)
  · split at e
    · cases e
    · cases (Option.some.inj e)
    · rename_i t1 o1 G1 e1
      have a1 := h _ _ _ _ _ _ _ _ _ e1
      have a2 := h _ _ _ _ _ _ _ _ _ e
      omega
  · split at e
    · simp only [Option.some.injEq, Sum.inl.injEq, Prod.mk.injEq] at e
      omega
    · split at e
      · cases (Option.some.inj e)
      · rename_i t1 o1 _ e1
        have a1 := p_into_o e1
        split at e
        · cases e
        · cases (Option.some.inj e)
        · rename_i t2 o2 R e2
          have a2 := h _ _ _ _ _ _ _ _ _ e2
          have a3 := h _ _ _ _ _ _ _ _ _ e
          omega
  · split at e
    · simp only [Option.some.injEq, Sum.inl.injEq, Prod.mk.injEq] at e
      omega
    · obtain ⟨t1, o1, _, _, e1, e, -⟩ := po_some e
      obtain ⟨t2, o2, _, _, e2, e, -⟩ := po_some e
      have a2 := h _ _ _ _ _ _ _ _ _ e2
      have a3 := h _ _ _ _ _ _ _ _ _ e
      have a1 : o1 ≤ 60 := by
        have e1 := Option.some.inj e1
        split at e1
        · simp only [Sum.inl.injEq, Prod.mk.injEq] at e1; omega
        · have := p_exp_o e1; omega
      omega
  · cases e
theorem ubR (m0 : yM) : ∀ N, ubP m0 (pR m0 N)
  | 0 => fun _ _ _ _ _ _ _ _ _ e => by cases e
  | N + 1 => ubE (ubR m0 N)
abbrev clT (m0 : yM) (t : Nat) : Int32 := clO (opO (m0.1 9 t))
theorem pR2 (m0 : yM) (N : Nat) (c : Int32) (q : Nat) (L : List ND) (t o : Nat) : pR m0 (N + 1) 2 c q L t o = if 60 < q ∨ clT m0 t < c then some (.inl (t, o, L)) else match p_into m0 t o with
    | .inr e => some (.inr e)
    | .inl (t1, o1, _) => match pR m0 N 1 (clT m0 t + 1) 0 [] t1 o1 with
      | none => none
      | some (.inr e) => some (.inr e)
      | some (.inl (t2, o2, R)) => pR m0 N 2 c (q + 1) ((35, m0.1 10 t, opO (m0.1 9 t), 0, L.length + R.length + 1) :: (L ++ R)) t2 o2 := rfl
theorem pR1 (m0 : yM) (N : Nat) (c : Int32) (q : Nat) (L : List ND) (t o : Nat) : pR m0 (N + 1) 1 c q L t o = match pR m0 N 0 0 0 [] t o with
    | none => none
    | some (.inr e) => some (.inr e)
    | some (.inl (t1, o1, G)) => pR m0 N 2 c 0 G t1 o1 := rfl
/-- what binds as close as c: first what binds closer, then the rest -/
theorem lvA (m0 : yM) (c : Nat) (hc : c ≤ 6) : ∀ (N q : Nat) (L : List ND) (t o : Nat) (r : PX), q ≤ o → o ≤ 60 → pR m0 N 2 (nI c) q L t o = some r → ∃ x, pR m0 N 2 (nI (c + 1)) q L t o = some x ∧ (∀ e, x = .inr e → r = .inr e) ∧ (∀ t1 o1 G, x = .inl (t1, o1, G) → clT m0 t1 < nI (c + 1) ∧ ∃ N' q', N' ≤ N ∧ q' ≤ o1 ∧ pR m0 N' 2 (nI c) q' G t1 o1 = some r) := by
  intro N
  induction N with
  | zero => intro q L t o r _ _ h; cases h
  | succ N ih =>
    intro q L t o r hq ho h
    have lt : nI c < nI (c + 1) := nI_lt (by omega) (by omega)
    have stop : clT m0 t < nI (c + 1) → ∃ x, pR m0 (N + 1) 2 (nI (c + 1)) q L t o = some x ∧ (∀ e, x = .inr e → r = .inr e) ∧ (∀ t1 o1 G, x = .inl (t1, o1, G) → clT m0 t1 < nI (c + 1) ∧ ∃ N' q', N' ≤ N + 1 ∧ q' ≤ o1 ∧ pR m0 N' 2 (nI c) q' G t1 o1 = some r) := by
      intro z
      refine ⟨.inl (t, o, L), by rw [pR2, if_pos (Or.inr z)], fun e u => (by cases u), fun t1 o1 G u => ?_⟩
      simp only [Sum.inl.injEq, Prod.mk.injEq] at u
      obtain ⟨rfl, rfl, rfl⟩ := u
      exact ⟨z, N + 1, q, Nat.le_refl _, hq, h⟩
    by_cases z : clT m0 t < nI (c + 1)
    · exact stop z
    · have z1 : ¬ clT m0 t < nI c := fun u => z (Int32.lt_trans u lt)
      rw [pR2, if_neg (fun u => u.elim (fun v => by omega) z1)] at h
      rw [pR2, if_neg (fun u => u.elim (fun v => by omega) z)]
      rcases hi : p_into m0 t o with ⟨t1, o1, G1⟩ | e
      · rw [hi] at h
        dsimp only at h ⊢
        have ai := p_into_o hi
        rcases hr : pR m0 N 1 (clT m0 t + 1) 0 [] t1 o1 with _ | ⟨⟨t2, o2, R⟩ | e⟩
        · rw [hr] at h; cases h
        · rw [hr] at h
          dsimp only at h ⊢
          have a1 := moR m0 N _ _ _ _ _ _ _ _ _ hr
          have a2 := ubR m0 N _ _ _ _ _ _ _ _ _ hr (by omega)
          obtain ⟨x, x1, x2, x3⟩ := ih (q + 1) _ t2 o2 r (by omega) a2 h
          refine ⟨x, x1, x2, fun t3 o3 G3 u => ?_⟩
          obtain ⟨y1, N', q', y2, y3, y4⟩ := x3 t3 o3 G3 u
          exact ⟨y1, N', q', by omega, y3, y4⟩
        · rw [hr] at h
          dsimp only at h ⊢
          refine ⟨.inr e, rfl, fun e' u => ?_, fun t1 o1 G u => (by cases u)⟩
          rw [← Option.some.inj h]
          exact u
      · rw [hi] at h
        dsimp only at h ⊢
        refine ⟨.inr e, rfl, fun e' u => ?_, fun t1 o1 G u => (by cases u)⟩
        rw [← Option.some.inj h]
        exact u
/-- what follows does not bind as close -/
theorem lvB (m0 : yM) (c : Int32) : ∀ (N q : Nat) (L : List ND) (t o t' o' : Nat) (G : List ND), q ≤ o → o ≤ 60 → pR m0 N 2 c q L t o = some (.inl (t', o', G)) → clT m0 t' < c := by
  intro N
  induction N with
  | zero => intro q L t o t' o' G _ _ h; cases h
  | succ N ih =>
    intro q L t o t' o' G hq ho h
    by_cases z : clT m0 t < c
    · rw [pR2, if_pos (Or.inr z)] at h
      simp only [Option.some.injEq, Sum.inl.injEq, Prod.mk.injEq] at h
      obtain ⟨rfl, rfl, rfl⟩ := h
      exact z
    · rw [pR2, if_neg (fun u => u.elim (fun v => by omega) z)] at h
      rcases hi : p_into m0 t o with ⟨t1, o1, G1⟩ | e
      · rw [hi] at h
        dsimp only at h
        have ai := p_into_o hi
        rcases hr : pR m0 N 1 (clT m0 t + 1) 0 [] t1 o1 with _ | ⟨⟨t2, o2, R⟩ | e⟩
        · rw [hr] at h; cases h
        · rw [hr] at h
          dsimp only at h
          have a1 := moR m0 N _ _ _ _ _ _ _ _ _ hr
          have a2 := ubR m0 N _ _ _ _ _ _ _ _ _ hr (by omega)
          exact ih (q + 1) _ t2 o2 t' o' G (by omega) a2 h
        · rw [hr] at h
          cases (Option.some.inj h)
      · rw [hi] at h
        cases (Option.some.inj h)
theorem lvB1 (m0 : yM) (c : Int32) (N : Nat) (t o t' o' : Nat) (G : List ND) (ho : o ≤ 60) (h : pR m0 N 1 c 0 [] t o = some (.inl (t', o', G))) : clT m0 t' < c := by
  cases N with
  | zero => cases h
  | succ N =>
    rw [pR1] at h
    rcases hr : pR m0 N 0 0 0 [] t o with _ | ⟨⟨t2, o2, R⟩ | e⟩
    · rw [hr] at h; cases h
    · rw [hr] at h
      exact lvB m0 c N 0 R t2 o2 t' o' G (by omega) (ubR m0 N _ _ _ _ _ _ _ _ _ hr ho) h
    · rw [hr] at h; cases (Option.some.inj h)
theorem i32_at {x : Int32} {c : Nat} (hc : c ≤ 100) (h : x < nI (c + 1)) (h2 : ¬ x < nI c) : x = nI c := by
  rw [Int32.lt_iff_toInt_lt, nI_toInt (by omega)] at h
  rw [Int32.lt_iff_toInt_lt, nI_toInt (by omega)] at h2
  rw [← Int32.toInt_inj, nI_toInt (by omega)]
  omega
theorem opl0 {k : Int32} (h : clO (opO k) = nI 0) : k = 30 := by
  unfold opO at h
  rcases Decidable.em (k = 30) with e | n
  · exact e
  rw [if_neg n] at h
  clear n
  rcases Decidable.em (k = 31) with e | n
  · rw [if_pos e] at h
    exact absurd h (by decide)
  rw [if_neg n] at h
  clear n
  rcases Decidable.em (k = 32) with e | n
  · rw [if_pos e] at h
    exact absurd h (by decide)
  rw [if_neg n] at h
  clear n
  rcases Decidable.em (k = 33) with e | n
  · rw [if_pos e] at h
    exact absurd h (by decide)
  rw [if_neg n] at h
  clear n
  rcases Decidable.em (k = 72) with e | n
  · rw [if_pos e] at h
    exact absurd h (by decide)
  rw [if_neg n] at h
  clear n
  rcases Decidable.em (k = 73) with e | n
  · rw [if_pos e] at h
    exact absurd h (by decide)
  rw [if_neg n] at h
  clear n
  rcases Decidable.em (k = 74) with e | n
  · rw [if_pos e] at h
    exact absurd h (by decide)
  rw [if_neg n] at h
  clear n
  rcases Decidable.em (k = 166) with e | n
  · rw [if_pos e] at h
    exact absurd h (by decide)
  rw [if_neg n] at h
  clear n
  rcases Decidable.em (k = 170) with e | n
  · rw [if_pos e] at h
    exact absurd h (by decide)
  rw [if_neg n] at h
  clear n
  rcases Decidable.em (k = 171) with e | n
  · rw [if_pos e] at h
    exact absurd h (by decide)
  rw [if_neg n] at h
  clear n
  rcases Decidable.em (k = 173) with e | n
  · rw [if_pos e] at h
    exact absurd h (by decide)
  rw [if_neg n] at h
  clear n
  rcases Decidable.em (k = 175) with e | n
  · rw [if_pos e] at h
    exact absurd h (by decide)
  rw [if_neg n] at h
  clear n
  rcases Decidable.em (k = 188) with e | n
  · rw [if_pos e] at h
    exact absurd h (by decide)
  rw [if_neg n] at h
  clear n
  rcases Decidable.em (k = 189) with e | n
  · rw [if_pos e] at h
    exact absurd h (by decide)
  rw [if_neg n] at h
  clear n
  rcases Decidable.em (k = 190) with e | n
  · rw [if_pos e] at h
    exact absurd h (by decide)
  rw [if_neg n] at h
  clear n
  exact absurd h (by decide)
theorem opl1 {k : Int32} (h : clO (opO k) = nI 1) : k = 31 := by
  unfold opO at h
  rcases Decidable.em (k = 30) with e | n
  · rw [if_pos e] at h
    exact absurd h (by decide)
  rw [if_neg n] at h
  clear n
  rcases Decidable.em (k = 31) with e | n
  · exact e
  rw [if_neg n] at h
  clear n
  rcases Decidable.em (k = 32) with e | n
  · rw [if_pos e] at h
    exact absurd h (by decide)
  rw [if_neg n] at h
  clear n
  rcases Decidable.em (k = 33) with e | n
  · rw [if_pos e] at h
    exact absurd h (by decide)
  rw [if_neg n] at h
  clear n
  rcases Decidable.em (k = 72) with e | n
  · rw [if_pos e] at h
    exact absurd h (by decide)
  rw [if_neg n] at h
  clear n
  rcases Decidable.em (k = 73) with e | n
  · rw [if_pos e] at h
    exact absurd h (by decide)
  rw [if_neg n] at h
  clear n
  rcases Decidable.em (k = 74) with e | n
  · rw [if_pos e] at h
    exact absurd h (by decide)
  rw [if_neg n] at h
  clear n
  rcases Decidable.em (k = 166) with e | n
  · rw [if_pos e] at h
    exact absurd h (by decide)
  rw [if_neg n] at h
  clear n
  rcases Decidable.em (k = 170) with e | n
  · rw [if_pos e] at h
    exact absurd h (by decide)
  rw [if_neg n] at h
  clear n
  rcases Decidable.em (k = 171) with e | n
  · rw [if_pos e] at h
    exact absurd h (by decide)
  rw [if_neg n] at h
  clear n
  rcases Decidable.em (k = 173) with e | n
  · rw [if_pos e] at h
    exact absurd h (by decide)
  rw [if_neg n] at h
  clear n
  rcases Decidable.em (k = 175) with e | n
  · rw [if_pos e] at h
    exact absurd h (by decide)
  rw [if_neg n] at h
  clear n
  rcases Decidable.em (k = 188) with e | n
  · rw [if_pos e] at h
    exact absurd h (by decide)
  rw [if_neg n] at h
  clear n
  rcases Decidable.em (k = 189) with e | n
  · rw [if_pos e] at h
    exact absurd h (by decide)
  rw [if_neg n] at h
  clear n
  rcases Decidable.em (k = 190) with e | n
  · rw [if_pos e] at h
    exact absurd h (by decide)
  rw [if_neg n] at h
  clear n
  exact absurd h (by decide)
theorem opl2 {k : Int32} (h : clO (opO k) = nI 2) : k = 32 ∨ k = 166 := by
  unfold opO at h
  rcases Decidable.em (k = 30) with e | n
  · rw [if_pos e] at h
    exact absurd h (by decide)
  rw [if_neg n] at h
  clear n
  rcases Decidable.em (k = 31) with e | n
  · rw [if_pos e] at h
    exact absurd h (by decide)
  rw [if_neg n] at h
  clear n
  rcases Decidable.em (k = 32) with e | n
  · exact Or.inl e
  rw [if_neg n] at h
  clear n
  rcases Decidable.em (k = 33) with e | n
  · rw [if_pos e] at h
    exact absurd h (by decide)
  rw [if_neg n] at h
  clear n
  rcases Decidable.em (k = 72) with e | n
  · rw [if_pos e] at h
    exact absurd h (by decide)
  rw [if_neg n] at h
  clear n
  rcases Decidable.em (k = 73) with e | n
  · rw [if_pos e] at h
    exact absurd h (by decide)
  rw [if_neg n] at h
  clear n
  rcases Decidable.em (k = 74) with e | n
  · rw [if_pos e] at h
    exact absurd h (by decide)
  rw [if_neg n] at h
  clear n
  rcases Decidable.em (k = 166) with e | n
  · exact Or.inr e
  rw [if_neg n] at h
  clear n
  rcases Decidable.em (k = 170) with e | n
  · rw [if_pos e] at h
    exact absurd h (by decide)
  rw [if_neg n] at h
  clear n
  rcases Decidable.em (k = 171) with e | n
  · rw [if_pos e] at h
    exact absurd h (by decide)
  rw [if_neg n] at h
  clear n
  rcases Decidable.em (k = 173) with e | n
  · rw [if_pos e] at h
    exact absurd h (by decide)
  rw [if_neg n] at h
  clear n
  rcases Decidable.em (k = 175) with e | n
  · rw [if_pos e] at h
    exact absurd h (by decide)
  rw [if_neg n] at h
  clear n
  rcases Decidable.em (k = 188) with e | n
  · rw [if_pos e] at h
    exact absurd h (by decide)
  rw [if_neg n] at h
  clear n
  rcases Decidable.em (k = 189) with e | n
  · rw [if_pos e] at h
    exact absurd h (by decide)
  rw [if_neg n] at h
  clear n
  rcases Decidable.em (k = 190) with e | n
  · rw [if_pos e] at h
    exact absurd h (by decide)
  rw [if_neg n] at h
  clear n
  exact absurd h (by decide)
theorem opl3 {k : Int32} (h : clO (opO k) = nI 3) : k = 189 ∨ k = 74 := by
  unfold opO at h
  rcases Decidable.em (k = 30) with e | n
  · rw [if_pos e] at h
    exact absurd h (by decide)
  rw [if_neg n] at h
  clear n
  rcases Decidable.em (k = 31) with e | n
  · rw [if_pos e] at h
    exact absurd h (by decide)
  rw [if_neg n] at h
  clear n
  rcases Decidable.em (k = 32) with e | n
  · rw [if_pos e] at h
    exact absurd h (by decide)
  rw [if_neg n] at h
  clear n
  rcases Decidable.em (k = 33) with e | n
  · rw [if_pos e] at h
    exact absurd h (by decide)
  rw [if_neg n] at h
  clear n
  rcases Decidable.em (k = 72) with e | n
  · rw [if_pos e] at h
    exact absurd h (by decide)
  rw [if_neg n] at h
  clear n
  rcases Decidable.em (k = 73) with e | n
  · rw [if_pos e] at h
    exact absurd h (by decide)
  rw [if_neg n] at h
  clear n
  rcases Decidable.em (k = 74) with e | n
  · exact Or.inr e
  rw [if_neg n] at h
  clear n
  rcases Decidable.em (k = 166) with e | n
  · rw [if_pos e] at h
    exact absurd h (by decide)
  rw [if_neg n] at h
  clear n
  rcases Decidable.em (k = 170) with e | n
  · rw [if_pos e] at h
    exact absurd h (by decide)
  rw [if_neg n] at h
  clear n
  rcases Decidable.em (k = 171) with e | n
  · rw [if_pos e] at h
    exact absurd h (by decide)
  rw [if_neg n] at h
  clear n
  rcases Decidable.em (k = 173) with e | n
  · rw [if_pos e] at h
    exact absurd h (by decide)
  rw [if_neg n] at h
  clear n
  rcases Decidable.em (k = 175) with e | n
  · rw [if_pos e] at h
    exact absurd h (by decide)
  rw [if_neg n] at h
  clear n
  rcases Decidable.em (k = 188) with e | n
  · rw [if_pos e] at h
    exact absurd h (by decide)
  rw [if_neg n] at h
  clear n
  rcases Decidable.em (k = 189) with e | n
  · exact Or.inl e
  rw [if_neg n] at h
  clear n
  rcases Decidable.em (k = 190) with e | n
  · rw [if_pos e] at h
    exact absurd h (by decide)
  rw [if_neg n] at h
  clear n
  exact absurd h (by decide)
theorem opl4 {k : Int32} (h : clO (opO k) = nI 4) : k = 188 ∨ k = 190 ∨ k = 72 ∨ k = 73 := by
  unfold opO at h
  rcases Decidable.em (k = 30) with e | n
  · rw [if_pos e] at h
    exact absurd h (by decide)
  rw [if_neg n] at h
  clear n
  rcases Decidable.em (k = 31) with e | n
  · rw [if_pos e] at h
    exact absurd h (by decide)
  rw [if_neg n] at h
  clear n
  rcases Decidable.em (k = 32) with e | n
  · rw [if_pos e] at h
    exact absurd h (by decide)
  rw [if_neg n] at h
  clear n
  rcases Decidable.em (k = 33) with e | n
  · rw [if_pos e] at h
    exact absurd h (by decide)
  rw [if_neg n] at h
  clear n
  rcases Decidable.em (k = 72) with e | n
  · exact Or.inr (Or.inr (Or.inl e))
  rw [if_neg n] at h
  clear n
  rcases Decidable.em (k = 73) with e | n
  · exact Or.inr (Or.inr (Or.inr e))
  rw [if_neg n] at h
  clear n
  rcases Decidable.em (k = 74) with e | n
  · rw [if_pos e] at h
    exact absurd h (by decide)
  rw [if_neg n] at h
  clear n
  rcases Decidable.em (k = 166) with e | n
  · rw [if_pos e] at h
    exact absurd h (by decide)
  rw [if_neg n] at h
  clear n
  rcases Decidable.em (k = 170) with e | n
  · rw [if_pos e] at h
    exact absurd h (by decide)
  rw [if_neg n] at h
  clear n
  rcases Decidable.em (k = 171) with e | n
  · rw [if_pos e] at h
    exact absurd h (by decide)
  rw [if_neg n] at h
  clear n
  rcases Decidable.em (k = 173) with e | n
  · rw [if_pos e] at h
    exact absurd h (by decide)
  rw [if_neg n] at h
  clear n
  rcases Decidable.em (k = 175) with e | n
  · rw [if_pos e] at h
    exact absurd h (by decide)
  rw [if_neg n] at h
  clear n
  rcases Decidable.em (k = 188) with e | n
  · exact Or.inl e
  rw [if_neg n] at h
  clear n
  rcases Decidable.em (k = 189) with e | n
  · rw [if_pos e] at h
    exact absurd h (by decide)
  rw [if_neg n] at h
  clear n
  rcases Decidable.em (k = 190) with e | n
  · exact Or.inr (Or.inl e)
  rw [if_neg n] at h
  clear n
  exact absurd h (by decide)
theorem opl5 {k : Int32} (h : clO (opO k) = nI 5) : k = 171 ∨ k = 173 := by
  unfold opO at h
  rcases Decidable.em (k = 30) with e | n
  · rw [if_pos e] at h
    exact absurd h (by decide)
  rw [if_neg n] at h
  clear n
  rcases Decidable.em (k = 31) with e | n
  · rw [if_pos e] at h
    exact absurd h (by decide)
  rw [if_neg n] at h
  clear n
  rcases Decidable.em (k = 32) with e | n
  · rw [if_pos e] at h
    exact absurd h (by decide)
  rw [if_neg n] at h
  clear n
  rcases Decidable.em (k = 33) with e | n
  · rw [if_pos e] at h
    exact absurd h (by decide)
  rw [if_neg n] at h
  clear n
  rcases Decidable.em (k = 72) with e | n
  · rw [if_pos e] at h
    exact absurd h (by decide)
  rw [if_neg n] at h
  clear n
  rcases Decidable.em (k = 73) with e | n
  · rw [if_pos e] at h
    exact absurd h (by decide)
  rw [if_neg n] at h
  clear n
  rcases Decidable.em (k = 74) with e | n
  · rw [if_pos e] at h
    exact absurd h (by decide)
  rw [if_neg n] at h
  clear n
  rcases Decidable.em (k = 166) with e | n
  · rw [if_pos e] at h
    exact absurd h (by decide)
  rw [if_neg n] at h
  clear n
  rcases Decidable.em (k = 170) with e | n
  · rw [if_pos e] at h
    exact absurd h (by decide)
  rw [if_neg n] at h
  clear n
  rcases Decidable.em (k = 171) with e | n
  · exact Or.inl e
  rw [if_neg n] at h
  clear n
  rcases Decidable.em (k = 173) with e | n
  · exact Or.inr e
  rw [if_neg n] at h
  clear n
  rcases Decidable.em (k = 175) with e | n
  · rw [if_pos e] at h
    exact absurd h (by decide)
  rw [if_neg n] at h
  clear n
  rcases Decidable.em (k = 188) with e | n
  · rw [if_pos e] at h
    exact absurd h (by decide)
  rw [if_neg n] at h
  clear n
  rcases Decidable.em (k = 189) with e | n
  · rw [if_pos e] at h
    exact absurd h (by decide)
  rw [if_neg n] at h
  clear n
  rcases Decidable.em (k = 190) with e | n
  · rw [if_pos e] at h
    exact absurd h (by decide)
  rw [if_neg n] at h
  clear n
  exact absurd h (by decide)
theorem opl6 {k : Int32} (h : clO (opO k) = nI 6) : k = 170 ∨ k = 175 ∨ k = 33 := by
  unfold opO at h
  rcases Decidable.em (k = 30) with e | n
  · rw [if_pos e] at h
    exact absurd h (by decide)
  rw [if_neg n] at h
  clear n
  rcases Decidable.em (k = 31) with e | n
  · rw [if_pos e] at h
    exact absurd h (by decide)
  rw [if_neg n] at h
  clear n
  rcases Decidable.em (k = 32) with e | n
  · rw [if_pos e] at h
    exact absurd h (by decide)
  rw [if_neg n] at h
  clear n
  rcases Decidable.em (k = 33) with e | n
  · exact Or.inr (Or.inr e)
  rw [if_neg n] at h
  clear n
  rcases Decidable.em (k = 72) with e | n
  · rw [if_pos e] at h
    exact absurd h (by decide)
  rw [if_neg n] at h
  clear n
  rcases Decidable.em (k = 73) with e | n
  · rw [if_pos e] at h
    exact absurd h (by decide)
  rw [if_neg n] at h
  clear n
  rcases Decidable.em (k = 74) with e | n
  · rw [if_pos e] at h
    exact absurd h (by decide)
  rw [if_neg n] at h
  clear n
  rcases Decidable.em (k = 166) with e | n
  · rw [if_pos e] at h
    exact absurd h (by decide)
  rw [if_neg n] at h
  clear n
  rcases Decidable.em (k = 170) with e | n
  · exact Or.inl e
  rw [if_neg n] at h
  clear n
  rcases Decidable.em (k = 171) with e | n
  · rw [if_pos e] at h
    exact absurd h (by decide)
  rw [if_neg n] at h
  clear n
  rcases Decidable.em (k = 173) with e | n
  · rw [if_pos e] at h
    exact absurd h (by decide)
  rw [if_neg n] at h
  clear n
  rcases Decidable.em (k = 175) with e | n
  · exact Or.inr (Or.inl e)
  rw [if_neg n] at h
  clear n
  rcases Decidable.em (k = 188) with e | n
  · rw [if_pos e] at h
    exact absurd h (by decide)
  rw [if_neg n] at h
  clear n
  rcases Decidable.em (k = 189) with e | n
  · rw [if_pos e] at h
    exact absurd h (by decide)
  rw [if_neg n] at h
  clear n
  rcases Decidable.em (k = 190) with e | n
  · rw [if_pos e] at h
    exact absurd h (by decide)
  rw [if_neg n] at h
  clear n
  exact absurd h (by decide)
theorem c313 (xs : List Int32) (d : Nat) {E : EV} {t o z : Nat} {Rs : List (List Int32)} {m : yM} (h : RRo E t o z Rs m) (c : Nat) (hc : c ≤ 6) : yC (xg xs) (d + 2) 313 [.ref 58, .int (nI c)] m (fun r m' => r = some (.int (if clT E.1 t = nI c then opO (E.1.1 9 t) else -1)) ∧ m' = m) := by
  have no : ∀ c : Nat, ¬ clT E.1 t = nI c → (some (.int (-1)) : Option Value) = some (.int (if clT E.1 t = nI c then opO (E.1.1 9 t) else -1)) := fun c u => by rw [if_neg u]
  have ye : ∀ (c : Nat) (k v : Int32), E.1.1 9 t = k → clO (opO k) = nI c ∧ opO k = v → (some (.int v) : Option Value) = some (.int (if clT E.1 t = nI c then opO (E.1.1 9 t) else -1)) := fun c k v u w => by
    rw [show clT E.1 t = clO (opO k) from by rw [← u], if_pos w.1, u, w.2]
  rcases (by omega : c = 0 ∨ c = 1 ∨ c = 2 ∨ c = 3 ∨ c = 4 ∨ c = 5 ∨ c = 6) with rfl | rfl | rfl | rfl | rfl | rfl | rfl
  · refine w313_0 xs (d + 1) _ m _ ⟨fun _ => ?_, fun u => absurd u (by decide), fun u => absurd u (by decide), fun u => absurd u (by decide), fun u => absurd u (by decide), fun u => absurd u (by decide), fun u => absurd rfl u⟩
    exact y_ci (c290 xs d h 30 (by decide)) (by omega) ⟨fun u => ⟨no 0 (fun e => if0 u (opl0 e)), rfl⟩, fun u => ⟨ye 0 30 0 (if1 u) (by decide), rfl⟩⟩
  · refine w313_0 xs (d + 1) _ m _ ⟨fun u => absurd u (by decide), fun _ => ?_, fun u => absurd u (by decide), fun u => absurd u (by decide), fun u => absurd u (by decide), fun u => absurd u (by decide), fun _ u => absurd rfl u⟩
    exact y_ci (c290 xs d h 31 (by decide)) (by omega) ⟨fun u => ⟨no 1 (fun e => if0 u (opl1 e)), rfl⟩, fun u => ⟨ye 1 31 1 (if1 u) (by decide), rfl⟩⟩
  · refine w313_0 xs (d + 1) _ m _ ⟨fun u => absurd u (by decide), fun u => absurd u (by decide), fun _ => ?_, fun u => absurd u (by decide), fun u => absurd u (by decide), fun u => absurd u (by decide), fun _ _ u => absurd rfl u⟩
    refine y_ci (c290 xs d h 32 (by decide)) (by omega) ⟨fun u => ⟨ye 2 32 2 (if1 u) (by decide), rfl⟩, fun u0 => ?_⟩
    exact y_ci (c295 xs d h 38 (by decide)) (by omega) ⟨fun u => ⟨no 2 (fun e => (opl2 e).elim (fun e => if0 u0 e) (fun e => if0 u e)), rfl⟩, fun u => ⟨ye 2 166 2 (if1 u) (by decide), rfl⟩⟩
  · refine w313_0 xs (d + 1) _ m _ ⟨fun u => absurd u (by decide), fun u => absurd u (by decide), fun u => absurd u (by decide), fun _ => ?_, fun u => absurd u (by decide), fun u => absurd u (by decide), fun _ _ _ u => absurd rfl u⟩
    refine y_ci (c295 xs d h 61 (by decide)) (by omega) ⟨fun u0 => ?_, fun u => ⟨ye 3 189 3 (if1 u) (by decide), rfl⟩⟩
    exact y_ci (c295 xs d h 5 (by decide)) (by omega) ⟨fun u => ⟨no 3 (fun e => (opl3 e).elim (fun e => if0 u0 e) (fun e => if0 u e)), rfl⟩, fun u => ⟨ye 3 74 4 (if1 u) (by decide), rfl⟩⟩
  · refine w313_0 xs (d + 1) _ m _ ⟨fun u => absurd u (by decide), fun u => absurd u (by decide), fun u => absurd u (by decide), fun u => absurd u (by decide), fun _ => ?_, fun u => absurd u (by decide), fun _ _ _ _ u => absurd rfl u⟩
    refine y_ci (c295 xs d h 60 (by decide)) (by omega) ⟨fun u0 => ?_, fun u => ⟨ye 4 188 5 (if1 u) (by decide), rfl⟩⟩
    refine y_ci (c295 xs d h 62 (by decide)) (by omega) ⟨fun u1 => ?_, fun u => ⟨ye 4 190 6 (if1 u) (by decide), rfl⟩⟩
    refine y_ci (c295 xs d h 3 (by decide)) (by omega) ⟨fun u2 => ?_, fun u => ⟨ye 4 72 7 (if1 u) (by decide), rfl⟩⟩
    exact y_ci (c295 xs d h 4 (by decide)) (by omega) ⟨fun u => ⟨no 4 (fun e => (opl4 e).elim (fun e => if0 u0 e) (fun e => e.elim (fun e => if0 u1 e) (fun e => e.elim (fun e => if0 u2 e) (fun e => if0 u e)))), rfl⟩, fun u => ⟨ye 4 73 8 (if1 u) (by decide), rfl⟩⟩
  · refine w313_0 xs (d + 1) _ m _ ⟨fun u => absurd u (by decide), fun u => absurd u (by decide), fun u => absurd u (by decide), fun u => absurd u (by decide), fun u => absurd u (by decide), fun _ => ?_, fun _ _ _ _ _ u => absurd rfl u⟩
    refine y_ci (c295 xs d h 43 (by decide)) (by omega) ⟨fun u0 => ?_, fun u => ⟨ye 5 171 9 (if1 u) (by decide), rfl⟩⟩
    exact y_ci (c295 xs d h 45 (by decide)) (by omega) ⟨fun u => ⟨no 5 (fun e => (opl5 e).elim (fun e => if0 u0 e) (fun e => if0 u e)), rfl⟩, fun u => ⟨ye 5 173 10 (if1 u) (by decide), rfl⟩⟩
  · refine w313_0 xs (d + 1) _ m _ ⟨fun u => absurd u (by decide), fun u => absurd u (by decide), fun u => absurd u (by decide), fun u => absurd u (by decide), fun u => absurd u (by decide), fun u => absurd u (by decide), fun _ _ _ _ _ _ => ?_⟩
    refine y_ci (c295 xs d h 42 (by decide)) (by omega) ⟨fun u0 => ?_, fun u => ⟨ye 6 170 11 (if1 u) (by decide), rfl⟩⟩
    refine y_ci (c295 xs d h 47 (by decide)) (by omega) ⟨fun u1 => ?_, fun u => ⟨ye 6 175 12 (if1 u) (by decide), rfl⟩⟩
    exact y_ci (c290 xs d h 33 (by decide)) (by omega) ⟨fun u => ⟨no 6 (fun e => (opl6 e).elim (fun e => if0 u0 e) (fun e => e.elim (fun e => if0 u1 e) (fun e => if0 u e))), rfl⟩, fun u => ⟨ye 6 33 13 (if1 u) (by decide), rfl⟩⟩
theorem c313x (xs : List Int32) (d : Nat) {E : EV} {e f : Int32} {m : yM} (h : RRe E e f m) (c : Nat) (hc : c ≤ 6) : yC (xg xs) (d + 2) 313 [.ref 58, .int (nI c)] m (fun r m' => r = some (.int (-1)) ∧ m' = m) := by
  rcases (by omega : c = 0 ∨ c = 1 ∨ c = 2 ∨ c = 3 ∨ c = 4 ∨ c = 5 ∨ c = 6) with rfl | rfl | rfl | rfl | rfl | rfl | rfl
  · refine w313_0 xs (d + 1) _ m _ ⟨fun _ => ?_, fun u => absurd u (by decide), fun u => absurd u (by decide), fun u => absurd u (by decide), fun u => absurd u (by decide), fun u => absurd u (by decide), fun u => absurd rfl u⟩
    exact y_ci (c290x xs d h _) (by omega) ⟨fun _ => ⟨rfl, rfl⟩, fun u => absurd rfl u⟩
  · refine w313_0 xs (d + 1) _ m _ ⟨fun u => absurd u (by decide), fun _ => ?_, fun u => absurd u (by decide), fun u => absurd u (by decide), fun u => absurd u (by decide), fun u => absurd u (by decide), fun _ u => absurd rfl u⟩
    exact y_ci (c290x xs d h _) (by omega) ⟨fun _ => ⟨rfl, rfl⟩, fun u => absurd rfl u⟩
  · refine w313_0 xs (d + 1) _ m _ ⟨fun u => absurd u (by decide), fun u => absurd u (by decide), fun _ => ?_, fun u => absurd u (by decide), fun u => absurd u (by decide), fun u => absurd u (by decide), fun _ _ u => absurd rfl u⟩
    refine y_ci (c290x xs d h _) (by omega) ⟨fun u => absurd rfl u, fun _ => ?_⟩
    exact y_ci (c295x xs d h _) (by omega) ⟨fun _ => ⟨rfl, rfl⟩, fun u => absurd rfl u⟩
  · refine w313_0 xs (d + 1) _ m _ ⟨fun u => absurd u (by decide), fun u => absurd u (by decide), fun u => absurd u (by decide), fun _ => ?_, fun u => absurd u (by decide), fun u => absurd u (by decide), fun _ _ _ u => absurd rfl u⟩
    refine y_ci (c295x xs d h _) (by omega) ⟨fun _ => ?_, fun u => absurd rfl u⟩
    exact y_ci (c295x xs d h _) (by omega) ⟨fun _ => ⟨rfl, rfl⟩, fun u => absurd rfl u⟩
  · refine w313_0 xs (d + 1) _ m _ ⟨fun u => absurd u (by decide), fun u => absurd u (by decide), fun u => absurd u (by decide), fun u => absurd u (by decide), fun _ => ?_, fun u => absurd u (by decide), fun _ _ _ _ u => absurd rfl u⟩
    refine y_ci (c295x xs d h _) (by omega) ⟨fun _ => ?_, fun u => absurd rfl u⟩
    refine y_ci (c295x xs d h _) (by omega) ⟨fun _ => ?_, fun u => absurd rfl u⟩
    refine y_ci (c295x xs d h _) (by omega) ⟨fun _ => ?_, fun u => absurd rfl u⟩
    exact y_ci (c295x xs d h _) (by omega) ⟨fun _ => ⟨rfl, rfl⟩, fun u => absurd rfl u⟩
  · refine w313_0 xs (d + 1) _ m _ ⟨fun u => absurd u (by decide), fun u => absurd u (by decide), fun u => absurd u (by decide), fun u => absurd u (by decide), fun u => absurd u (by decide), fun _ => ?_, fun _ _ _ _ _ u => absurd rfl u⟩
    refine y_ci (c295x xs d h _) (by omega) ⟨fun _ => ?_, fun u => absurd rfl u⟩
    exact y_ci (c295x xs d h _) (by omega) ⟨fun _ => ⟨rfl, rfl⟩, fun u => absurd rfl u⟩
  · refine w313_0 xs (d + 1) _ m _ ⟨fun u => absurd u (by decide), fun u => absurd u (by decide), fun u => absurd u (by decide), fun u => absurd u (by decide), fun u => absurd u (by decide), fun u => absurd u (by decide), fun _ _ _ _ _ _ => ?_⟩
    refine y_ci (c295x xs d h _) (by omega) ⟨fun _ => ?_, fun u => absurd rfl u⟩
    refine y_ci (c295x xs d h _) (by omega) ⟨fun _ => ?_, fun u => absurd rfl u⟩
    exact y_ci (c290x xs d h _) (by omega) ⟨fun _ => ⟨rfl, rfl⟩, fun u => absurd rfl u⟩
