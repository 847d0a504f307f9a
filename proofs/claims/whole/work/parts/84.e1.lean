/-! THE PURE MACHINE IS SAFE: where jumps lead, what loops leave alone -/
/-- this code stands in D from p on; what waits is aimed by τ -/
def SJt (D : List IT) (p : Nat) (C : List IT) (τ : Nat → Nat) : Prop := ∀ i x, C[i]? = some x → ∃ y, D[p + i]? = some y ∧ y.1 = x.1 ∧ y.2.2.1 = x.2.2.1 ∧ y.2.2.2.1 = x.2.2.2.1 ∧ (x.2.2.2.2.1 = 0 → y.2.1 = x.2.1) ∧ (¬ x.2.2.2.2.1 = 0 → y.2.1 = nI (τ x.2.2.2.2.1))
theorem SJt.l {D : List IT} {p : Nat} {C E : List IT} {τ : Nat → Nat} (h : SJt D p (C ++ E) τ) : SJt D p C τ := fun i x hx => h i x (by
  rw [List.getElem?_append_left (List.getElem?_eq_some_iff.mp hx).1]
  exact hx)
theorem SJt.r {D : List IT} {p : Nat} {C E : List IT} {τ : Nat → Nat} (h : SJt D p (C ++ E) τ) : SJt D (p + C.length) E τ := fun i x hx => by
  obtain ⟨y, y1, y2⟩ := h (C.length + i) x (by
    rw [List.getElem?_append_right (by omega), Nat.add_sub_cancel_left]
    exact hx)
  exact ⟨y, by rw [show p + C.length + i = p + (C.length + i) by omega]; exact y1, y2⟩
theorem SJt.le {D : List IT} {p : Nat} {C : List IT} {τ : Nat → Nat} (h : SJt D p C τ) (hC : 0 < C.length) : p + C.length ≤ D.length := by
  obtain ⟨y, y1, -⟩ := h (C.length - 1) (C.getD (C.length - 1) dIT) (getD_some (by omega))
  have := (List.getElem?_eq_some_iff.mp y1).1
  omega
theorem SJt.rs {D : List IT} {p : Nat} {C : List IT} {τ : Nat → Nat} {μ P : Nat} (hμ : ¬ μ = 0) (h : SJt D p (res μ (nI P) C) τ) : SJt D p C (fun ν => if ν = μ then P else τ ν) := fun i x hx => by
  obtain ⟨y, y1, y2, y3, y3', y4, y5⟩ := h i (rs1 μ (nI P) x) (by
    unfold res
    rw [List.getElem?_map, hx]
    rfl)
  unfold rs1 at y2 y3 y3' y4 y5
  by_cases q : x.2.2.2.2.1 = μ
  · rw [if_pos q] at y2 y3 y3' y4 y5
    refine ⟨y, y1, y2, y3, y3', fun z => absurd (q.symm.trans z) hμ, fun _ => ?_⟩
    show y.2.1 = nI (if x.2.2.2.2.1 = μ then P else τ x.2.2.2.2.1)
    rw [if_pos q]
    exact y4 rfl
  · rw [if_neg q] at y2 y3 y3' y4 y5
    refine ⟨y, y1, y2, y3, y3', y4, fun z => ?_⟩
    show y.2.1 = nI (if x.2.2.2.2.1 = μ then P else τ x.2.2.2.2.1)
    rw [if_neg q]
    exact y5 z
theorem SJt.hd {D : List IT} {p : Nat} {x : IT} {C : List IT} {τ : Nat → Nat} (h : SJt D p (x :: C) τ) : D[p]? = some (D.getD p dIT) ∧ (D.getD p dIT).1 = x.1 ∧ (D.getD p dIT).2.2.1 = x.2.2.1 ∧ (x.2.2.2.2.1 = 0 → (D.getD p dIT).2.1 = x.2.1) ∧ (¬ x.2.2.2.2.1 = 0 → (D.getD p dIT).2.1 = nI (τ x.2.2.2.2.1)) := by
  obtain ⟨y, y1, y2, y3, y3', y4, y5⟩ := h 0 x rfl
  rw [Nat.add_zero] at y1
  have e : D.getD p dIT = y := by rw [List.getD_eq_getElem?_getD, y1]; rfl
  rw [e]
  exact ⟨y1, y2, y3, y4, y5⟩
theorem SJt.tl {D : List IT} {p : Nat} {x : IT} {C : List IT} {τ : Nat → Nat} (h : SJt D p (x :: C) τ) : SJt D (p + 1) C τ := SJt.r (C := [x]) h
/-- the height behind a piece of code -/
theorem hAt_C {D : List IT} {τ : Nat → Nat} : ∀ (C : List IT) (p : Nat) (s s' : Nat × Bool), SJt D p C τ → hAt D p s → hR C s = some s' → hAt D (p + C.length) s'
  | [], p, s, s', _, h, e => by rw [← Option.some.inj e]; exact h
  | x :: C, p, s, s', hs, h, e => by
    have e : (hS x.1 s).bind (hR C) = some s' := e
    cases e1 : hS x.1 s with
    | none => rw [e1] at e; cases e
    | some s1 =>
      rw [e1] at e
      have e : hR C s1 = some s' := e
      obtain ⟨y1, y2, -⟩ := hs.hd
      have h1 : hAt D (p + 1) s1 := by
        unfold hAt at h ⊢
        rw [List.take_add_one, y1, hR_app, h]
        show (hS (D.getD p dIT).1 s).bind (hR []) = _
        rw [y2, e1]
        rfl
      have := hAt_C C (p + 1) s1 s' hs.tl h1 e
      rw [List.length_cons, show p + (C.length + 1) = p + 1 + C.length by omega]
      exact this
theorem hAt_T {D : List IT} {τ : Nat → Nat} {C : List IT} {p a b : Nat} (hs : SJt D p C τ) (h : hAt D p (a, false)) (ht : hT C a b) : hAt D (p + C.length) (b, false) := hAt_C C p _ _ hs h ht
/-- jumps and loops from p to q are as they should be -/
def GRd (σ : RS) (D : List IT) (p q : Nat) : Prop := ∀ j, p ≤ j → j < q → gdJ σ D j
theorem GRd.nil {σ : RS} {D : List IT} {p : Nat} : GRd σ D p p := fun j h1 h2 => by omega
theorem GRd.app {σ : RS} {D : List IT} {p m q : Nat} (h : GRd σ D p m) (h2 : GRd σ D m q) : GRd σ D p q := fun j j1 j2 => by
  rcases Nat.lt_or_ge j m with c | c
  · exact h j j1 c
  · exact h2 j c j2
theorem GRd.one {σ : RS} {D : List IT} {p : Nat} (h : gdJ σ D p) : GRd σ D p (p + 1) := fun j h1 h2 => by
  rw [show j = p by omega]
  exact h
theorem GRd.plain {σ : RS} {D : List IT} {U : Nat} {τ : Nat → Nat} {C : List IT} {p : Nat} (h : pj U C) (hs : SJt D p C τ) : GRd σ D p (p + C.length) := fun j h1 h2 => by
  obtain ⟨y, y1, y2, -⟩ := hs (j - p) (C.getD (j - p) dIT) (getD_some (by omega))
  rw [show p + (j - p) = j by omega] at y1
  have e : D.getD j dIT = y := by rw [List.getD_eq_getElem?_getD, y1]; rfl
  obtain ⟨-, a2, a3, a4, -⟩ := h _ (List.mem_of_getElem? (getD_some (d := dIT) (show j - p < C.length by omega)))
  unfold gdJ
  rw [e, y2]
  exact ⟨fun z => (z.elim a2 a3).elim, fun z => absurd z a4⟩
theorem gdJ_11 {σ : RS} {D : List IT} {j t : Nat} (ho : (D.getD j dIT).1 = 10 ∨ (D.getD j dIT).1 = 11) (ht : (D.getD j dIT).2.1 = nI t) (hl : t < 2 ^ 30) (hz : hAt D t (0, false)) : gdJ σ D j := by
  refine ⟨fun _ => by rw [ht, nI_clamp (by omega)]; exact hz, fun z => ?_⟩
  rcases ho with w | w <;> rw [w] at z <;> exact absurd z (by decide)
theorem GRd.wyL {σ : RS} {D : List IT} {τ : Nat → Nat} {n : Nat} {bd : Nat → Nat → List IT} {b : Nat} {mo : Bool} {p : Nat} (hD : D.length ≤ 3000) (hs : SJt D p (wy n bd b mo p) τ) (hz : hAt D p (1, false)) (hE : mo = true → hAt D (τ (mE n)) (0, false) ∧ τ (mE n) < 2 ^ 30) (ht : hT (bd b (p + 1)) 0 0) (hb : SJt D (p + 1) (bd b (p + 1)) τ → hAt D (p + 1) (0, false) → GRd σ D (p + 1) (p + 1 + (bd b (p + 1)).length)) : GRd σ D p (p + (wy n bd b mo p).length) := by
  have hle := hs.le (by unfold wy; rw [List.length_cons]; omega)
  unfold wy at hs hle ⊢
  rw [List.length_cons, List.length_append] at hle ⊢
  obtain ⟨a1, a2, a3, a4, -⟩ := hs.hd
  have a2 : (D.getD p dIT).1 = 11 := a2
  have a4 : (D.getD p dIT).2.1 = nI (p + 1 + (bd b (p + 1)).length + (if mo = true then 1 else 0)) := a4 rfl
  have z1 : hAt D (p + 1) (0, false) := hAt_T (C := [_]) (SJt.l (C := [_]) hs) hz (hT.i rfl)
  have z2 := hAt_T hs.tl.l z1 ht
  have B := hb hs.tl.l z1
  have go : GRd σ D (p + 1 + (bd b (p + 1)).length) (p + 1 + (bd b (p + 1)).length + (if mo = true then [((10, 0, 0, 0, mE n, 0) : IT)] else []).length) ∧ hAt D (p + 1 + (bd b (p + 1)).length + (if mo = true then 1 else 0)) (0, false) := by
    cases mo with
    | false => exact ⟨GRd.nil, z2⟩
    | true =>
      have hg := hs.tl.r
      rw [if_pos rfl] at hg
      obtain ⟨g1, g2, g3, -, g5⟩ := hg.hd
      have g5 : (D.getD (p + 1 + (bd b (p + 1)).length) dIT).2.1 = nI (τ (mE n)) := g5 (by show ¬ mE n = 0; unfold mE; omega)
      obtain ⟨e1, e2⟩ := hE rfl
      exact ⟨GRd.one (gdJ_11 (Or.inl g2) g5 e2 e1), hAt_T (C := [_]) hg z2 (hT.i rfl)⟩
  have f : GRd σ D p (p + 1) := GRd.one (gdJ_11 (Or.inr a2) a4 (by split at hle <;> split <;> simp at hle <;> omega) go.2)
  have := f.app (B.app go.1)
  rw [show p + ((bd b (p + 1)).length + (if mo = true then [((10, 0, 0, 0, mE n, 0) : IT)] else []).length + 1) = p + 1 + (bd b (p + 1)).length + (if mo = true then [((10, 0, 0, 0, mE n, 0) : IT)] else []).length by omega]
  exact this
theorem wy_T {n : Nat} {bd : Nat → Nat → List IT} {b : Nat} {mo : Bool} {p : Nat} (h : hT (bd b (p + 1)) 0 0) : hT (wy n bd b mo p) 1 0 := by
  unfold wy
  refine hT.co rfl (h.app ?_)
  split
  · exact hT.i rfl
  · exact hT.nil
theorem GRd.ifL {σ : RS} {D : List IT} {U : Nat} {τ : Nat → Nat} {n : Nat} {e : Nat → List IT} {bd : Nat → Nat → List IT} (hD : D.length ≤ 3000) (hE : hAt D (τ (mE n)) (0, false) ∧ τ (mE n) < 2 ^ 30) : ∀ (k : Nat) (L : List Nat) (p : Nat), L.length ≤ k → (∀ b, b ∈ L → ∀ p, hT (bd b p) 0 0 ∧ (SJt D p (bd b p) τ → hAt D p (0, false) → GRd σ D p (p + (bd b p).length))) → (∀ c, c ∈ L → pj U (e c) ∧ hT (e c) 0 1) → SJt D p (wIf n e bd L p) τ → hAt D p (0, false) → GRd σ D p (p + (wIf n e bd L p).length) := by
  intro k
  induction k with
  | zero =>
    intro L p hk _ _ _ _
    rw [List.length_eq_zero_iff.mp (show L.length = 0 by omega)]
    exact GRd.nil
  | succ k ih =>
    intro L p hk hb he hs hz
    match L, hk, hb, he, hs with
    | [], _, _, _, _ => exact GRd.nil
    | [b], _, hb, _, hs => exact (hb b List.mem_cons_self p).2 hs hz
    | g :: b :: L, hk, hb, he, hs =>
      have es : wIf n e bd (g :: b :: L) p = e g ++ (wy n bd b (!L.isEmpty) (p + (e g).length) ++ wIf n e bd L (p + (e g).length + (wy n bd b (!L.isEmpty) (p + (e g).length)).length)) := rfl
      rw [es] at hs ⊢
      obtain ⟨e1, e2⟩ := he g List.mem_cons_self
      have z1 := hAt_T hs.l hz e2
      have bq := fun p => hb b (List.mem_cons_of_mem _ List.mem_cons_self) p
      have w := GRd.wyL (σ := σ) hD hs.r.l z1 (fun _ => hE) (bq _).1 (bq _).2
      have z2 : hAt D (p + (e g).length + (wy n bd b (!L.isEmpty) (p + (e g).length)).length) (0, false) := hAt_T hs.r.l z1 (wy_T (bq _).1)
      have r := ih L _ (by simp at hk; omega) (fun z hz => hb z (List.mem_cons_of_mem _ (List.mem_cons_of_mem _ hz))) (fun z hz => he z (List.mem_cons_of_mem _ (List.mem_cons_of_mem _ hz))) hs.r.r z2
      rw [List.length_append, List.length_append, ← Nat.add_assoc, ← Nat.add_assoc]
      exact (GRd.plain e1 hs.l).app (w.app r)
theorem wCs_T {F : List ND} {σ : RS} {u : Nat} {n : Nat} {c0 : Nat} (e : σ.2.2.2.2 n = nI c0) (hc : c0 < cN σ u) {c : Nat} (g1 : ¬ rgK F c = []) : hT (rgL F σ (σ.2.2.2.2 n) (rgK F c) 0) 0 1 := (rgL_G (W := fun _ => True) (u := u) (F := F) e hc (rgK F c) 0).2.2 g1 rfl
theorem GRd.csL {F : List ND} {σ : RS} {u : Nat} {D : List IT} {τ : Nat → Nat} {n : Nat} {bd : Nat → Nat → List IT} {c0 : Nat} (e : σ.2.2.2.2 n = nI c0) (hc : c0 < cN σ u) (hD : D.length ≤ 3000) (hE : hAt D (τ (mE n)) (0, false) ∧ τ (mE n) < 2 ^ 30) : ∀ (L : List Nat) (p : Nat), (∀ c, c ∈ L → (σ.2.2.1 c = 11 → ∀ p, hT (bd c p) 0 0 ∧ (SJt D p (bd c p) τ → hAt D p (0, false) → GRd σ D p (p + (bd c p).length))) ∧ (¬ σ.2.2.1 c = 11 → ¬ rgK F c = [] ∧ ∀ p, hT (bd (lsK F c) p) 0 0 ∧ (SJt D p (bd (lsK F c) p) τ → hAt D p (0, false) → GRd σ D p (p + (bd (lsK F c) p).length)))) → SJt D p (wCs F σ n bd L p) τ → hAt D p (0, false) → GRd σ D p (p + (wCs F σ n bd L p).length)
  | [], p, _, _, _ => GRd.nil
  | c :: L, p, hb, hs, hz => by
    have hc' := hb c List.mem_cons_self
    have hL := fun x hx => hb x (List.mem_cons_of_mem c hx)
    unfold wCs at hs ⊢
    by_cases q : σ.2.2.1 c = 11
    · rw [if_pos q] at hs ⊢
      rw [List.length_append, ← Nat.add_assoc]
      exact ((hc'.1 q p).2 hs.l hz).app (GRd.csL e hc hD hE L _ hL hs.r (hAt_T hs.l hz (hc'.1 q p).1))
    · rw [if_neg q] at hs ⊢
      obtain ⟨g1, g2⟩ := hc'.2 q
      rw [List.length_append, List.length_append, ← Nat.add_assoc, ← Nat.add_assoc]
      have z1 := hAt_T hs.l hz (wCs_T e hc g1)
      have z2 := hAt_T hs.r.l z1 (wy_T (g2 _).1)
      exact (GRd.plain (U := 0) (rgL_v F σ _ _ _).j hs.l).app ((GRd.wyL hD hs.r.l z1 (fun _ => hE) (g2 _).1 (g2 _).2).app (GRd.csL e hc hD hE L _ hL hs.r.r z2))
theorem GRd.seq {σ : RS} {D : List IT} {τ : Nat → Nat} {f : Nat → Nat → List IT} : ∀ (L : List Nat) (p : Nat), (∀ c, c ∈ L → ∀ p, hT (f c p) 0 0 ∧ (SJt D p (f c p) τ → hAt D p (0, false) → GRd σ D p (p + (f c p).length))) → SJt D p (seqC f L p) τ → hAt D p (0, false) → GRd σ D p (p + (seqC f L p).length)
  | [], p, _, _, _ => GRd.nil
  | c :: L, p, h, hs, hz => by
    have es : seqC f (c :: L) p = f c p ++ seqC f L (p + (f c p).length) := rfl
    rw [es] at hs ⊢
    rw [List.length_append, ← Nat.add_assoc]
    have hc := h c List.mem_cons_self p
    exact (hc.2 hs.l hz).app (GRd.seq L _ (fun x hx => h x (List.mem_cons_of_mem _ hx)) hs.r (hAt_T hs.l hz hc.1))
