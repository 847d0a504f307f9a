/-! MEASURE: loops lie one in another -/
/-- the next one at its own level: behind a loop, if it begins one -/
def nx (D : List IT) (i : Nat) : Nat := if (D.getD i dIT).1 = 13 then (D.getD i dIT).2.2.1.toNatClampNeg else i + 1
def upD (D : List IT) : Nat → Nat → Nat → Prop
  | 0 => fun a t => a = t
  | k + 1 => fun a t => a < nx D a ∧ upD D k (nx D a) t
theorem upD.le {D : List IT} : ∀ {k a t : Nat}, upD D k a t → a ≤ t
  | 0, a, t, h => by have h : a = t := h; omega
  | k + 1, a, t, h => by have := upD.le (k := k) h.2; have := h.1; omega
theorem upD.tr {D : List IT} {k' t u : Nat} (h2 : upD D k' t u) : ∀ {k a : Nat}, upD D k a t → upD D (k + k') a u
  | 0, a, h => by
    have h : a = t := h
    rw [h, Nat.zero_add]
    exact h2
  | k + 1, a, h => by
    rw [show k + 1 + k' = k + k' + 1 by omega]
    exact ⟨h.1, upD.tr h2 h.2⟩
def TQ (D : List IT) (a t q : Nat) : Prop := a ≤ t ∧ t ≤ q ∧ ∃ k, upD D k a t
/-- an instruction of a level that ends at q and is left for out -/
def okI (D : List IT) (U : Nat) (R : Nat → Nat → Prop) (out : Option Nat) (q i : Nat) : Prop := ¬ (D.getD i dIT).1 = 14 ∧ ((D.getD i dIT).1 = 15 ∨ (D.getD i dIT).1 = 16 → ∃ b, b < U ∧ (D.getD i dIT).2.1 = nI b) ∧ ((D.getD i dIT).1 = 10 → ∃ t, (D.getD i dIT).2.1 = nI t ∧ (out = some t ∨ TQ D (i + 1) t q)) ∧ ((D.getD i dIT).1 = 11 → ∃ t, (D.getD i dIT).2.1 = nI t ∧ TQ D (i + 1) t q) ∧ ((D.getD i dIT).1 = 13 → (∃ n, n ≤ 1000000 ∧ 1 ≤ i ∧ (D.getD (i - 1) dIT).2.2.1 = nI n) ∧ ∃ b, (D.getD i dIT).2.2.1 = nI b ∧ i + 2 ≤ b ∧ b ≤ q ∧ (D.getD (b - 1) dIT).1 = 14 ∧ R (i + 1) b)
def LPk (D : List IT) (U : Nat) (R : Nat → Nat → Prop) (out : Option Nat) (q : Nat) : Nat → Nat → Prop
  | 0 => fun i => i = q
  | k + 1 => fun i => i < q ∧ q ≤ D.length ∧ i < nx D i ∧ okI D U R out q i ∧ LPk D U R out q k (nx D i)
def RL (D : List IT) (U : Nat) : Nat → Nat → Nat → Prop
  | 0 => fun _ _ => False
  | N + 1 => fun a b => ∃ k, LPk D U (RL D U N) (some b) (b - 1) k a
def LPz (D : List IT) (U N : Nat) (out : Option Nat) (i q : Nat) : Prop := ∃ k, LPk D U (RL D U N) out q k i
theorem okI.mo {D : List IT} {U : Nat} {R : Nat → Nat → Prop} {out : Option Nat} {q q' i : Nat} (h : okI D U R out q i) (hq : q ≤ q') : okI D U R out q' i := by
  obtain ⟨h1, h2, h3, h4, h5⟩ := h
  refine ⟨h1, h2, fun z => ?_, fun z => ?_, fun z => ?_⟩
  · obtain ⟨t, t1, t2⟩ := h3 z
    exact ⟨t, t1, t2.imp id (fun w => ⟨w.1, by have := w.2.1; omega, w.2.2⟩)⟩
  · obtain ⟨t, t1, t2⟩ := h4 z
    exact ⟨t, t1, t2.1, by have := t2.2.1; omega, t2.2.2⟩
  · obtain ⟨n, b, b1, b2, b3, b4⟩ := h5 z
    exact ⟨n, b, b1, b2, by omega, b4⟩
theorem LPk.le {D : List IT} {U : Nat} {R : Nat → Nat → Prop} {out : Option Nat} {q : Nat} : ∀ {k i : Nat}, LPk D U R out q k i → i ≤ q
  | 0, i, h => by have h : i = q := h; omega
  | k + 1, i, h => by have := h.1; omega
theorem LPk.pa {D : List IT} {U : Nat} {R : Nat → Nat → Prop} {out : Option Nat} {q : Nat} : ∀ {k i : Nat}, LPk D U R out q k i → upD D k i q
  | 0, i, h => h
  | k + 1, i, h => ⟨h.2.2.1, LPk.pa (k := k) h.2.2.2.2⟩
theorem LPk.app {D : List IT} {U : Nat} {R : Nat → Nat → Prop} {out : Option Nat} {m q k' : Nat} (h2 : LPk D U R out q k' m) (hq : q ≤ D.length) : ∀ {k i : Nat}, LPk D U R out m k i → LPk D U R out q (k + k') i
  | 0, i, h => by
    have h : i = m := h
    rw [h, Nat.zero_add]
    exact h2
  | k + 1, i, h => by
    obtain ⟨a, b, n, c, d⟩ := h
    have le := h2.le
    rw [show k + 1 + k' = k + k' + 1 by omega]
    exact ⟨by omega, hq, n, c.mo le, LPk.app h2 hq d⟩
theorem LPz.le {D : List IT} {U N : Nat} {out : Option Nat} {i q : Nat} (h : LPz D U N out i q) : i ≤ q := h.choose_spec.le
theorem LPz.nil {D : List IT} {U N : Nat} {out : Option Nat} {i : Nat} : LPz D U N out i i := ⟨0, rfl⟩
theorem LPz.app {D : List IT} {U N : Nat} {out : Option Nat} {i m q : Nat} (h : LPz D U N out i m) (h2 : LPz D U N out m q) (hq : q ≤ D.length) : LPz D U N out i q := by
  obtain ⟨k, h⟩ := h
  obtain ⟨k', h2⟩ := h2
  exact ⟨k + k', LPk.app h2 hq h⟩
theorem LPz.cons {D : List IT} {U N : Nat} {out : Option Nat} {i q : Nat} (h : LPz D U N out (nx D i) q) (hn : i < nx D i) (hi : i < q) (hq : q ≤ D.length) (ho : okI D U (RL D U N) out q i) : LPz D U N out i q := by
  obtain ⟨k, h⟩ := h
  exact ⟨k + 1, hi, hq, hn, ho, h⟩
theorem LPz.tq {D : List IT} {U N : Nat} {out : Option Nat} {i q : Nat} (h : LPz D U N out i q) : TQ D i q q := by
  have le := h.le
  obtain ⟨k, h⟩ := h
  exact ⟨le, Nat.le_refl _, k, h.pa⟩
theorem TQ.tr {D : List IT} {a t u q q' : Nat} (h : TQ D a t q) (h2 : TQ D t u q') : TQ D a u q' := by
  obtain ⟨a1, -, k, hk⟩ := h
  obtain ⟨a2, h1, k', hk'⟩ := h2
  exact ⟨by omega, h1, k + k', hk'.tr hk⟩
/-- this code stands in D from p on; what waits is aimed by τ -/
def SIt (D : List IT) (p : Nat) (C : List IT) (τ : Nat → Nat) : Prop := ∀ i x, C[i]? = some x → ∃ y, D[p + i]? = some y ∧ y.1 = x.1 ∧ y.2.2.1 = x.2.2.1 ∧ (x.2.2.2.2.1 = 0 → y.2.1 = x.2.1) ∧ (¬ x.2.2.2.2.1 = 0 → y.2.1 = nI (τ x.2.2.2.2.1))
theorem SIt.l {D : List IT} {p : Nat} {C E : List IT} {τ : Nat → Nat} (h : SIt D p (C ++ E) τ) : SIt D p C τ := fun i x hx => h i x (by
  rw [List.getElem?_append_left (List.getElem?_eq_some_iff.mp hx).1]
  exact hx)
theorem SIt.r {D : List IT} {p : Nat} {C E : List IT} {τ : Nat → Nat} (h : SIt D p (C ++ E) τ) : SIt D (p + C.length) E τ := fun i x hx => by
  obtain ⟨y, y1, y2⟩ := h (C.length + i) x (by
    rw [List.getElem?_append_right (by omega), Nat.add_sub_cancel_left]
    exact hx)
  exact ⟨y, by rw [show p + C.length + i = p + (C.length + i) by omega]; exact y1, y2⟩
theorem SIt.le {D : List IT} {p : Nat} {C : List IT} {τ : Nat → Nat} (h : SIt D p C τ) (hC : 0 < C.length) : p + C.length ≤ D.length := by
  obtain ⟨y, y1, -⟩ := h (C.length - 1) (C.getD (C.length - 1) dIT) (getD_some (by omega))
  have := (List.getElem?_eq_some_iff.mp y1).1
  omega
theorem SIt.rs {D : List IT} {p : Nat} {C : List IT} {τ : Nat → Nat} {μ P : Nat} (hμ : ¬ μ = 0) (h : SIt D p (res μ (nI P) C) τ) : SIt D p C (fun ν => if ν = μ then P else τ ν) := fun i x hx => by
  obtain ⟨y, y1, y2, y3, y4, y5⟩ := h i (rs1 μ (nI P) x) (by
    unfold res
    rw [List.getElem?_map, hx]
    rfl)
  unfold rs1 at y2 y3 y4 y5
  by_cases q : x.2.2.2.2.1 = μ
  · rw [if_pos q] at y2 y3 y4 y5
    refine ⟨y, y1, y2, y3, fun z => absurd (q.symm.trans z) hμ, fun _ => ?_⟩
    show y.2.1 = nI (if x.2.2.2.2.1 = μ then P else τ x.2.2.2.2.1)
    rw [if_pos q]
    exact y4 rfl
  · rw [if_neg q] at y2 y3 y4 y5
    refine ⟨y, y1, y2, y3, y4, fun z => ?_⟩
    show y.2.1 = nI (if x.2.2.2.2.1 = μ then P else τ x.2.2.2.2.1)
    rw [if_neg q]
    exact y5 z
theorem SIt.hd {D : List IT} {p : Nat} {x : IT} {C : List IT} {τ : Nat → Nat} (h : SIt D p (x :: C) τ) : p < D.length ∧ (D.getD p dIT).1 = x.1 ∧ (D.getD p dIT).2.2.1 = x.2.2.1 ∧ (x.2.2.2.2.1 = 0 → (D.getD p dIT).2.1 = x.2.1) ∧ (¬ x.2.2.2.2.1 = 0 → (D.getD p dIT).2.1 = nI (τ x.2.2.2.2.1)) := by
  obtain ⟨y, y1, y2, y3, y4, y5⟩ := h 0 x rfl
  rw [Nat.add_zero] at y1
  have e : D.getD p dIT = y := by rw [List.getD_eq_getElem?_getD, y1]; rfl
  rw [e]
  exact ⟨(List.getElem?_eq_some_iff.mp y1).1, y2, y3, y4, y5⟩
theorem SIt.tl {D : List IT} {p : Nat} {x : IT} {C : List IT} {τ : Nat → Nat} (h : SIt D p (x :: C) τ) : SIt D (p + 1) C τ := SIt.r (C := [x]) h
/-- code without jumps -/
def pj (U : Nat) (C : List IT) : Prop := ∀ x, x ∈ C → x.2.2.2.2.1 = 0 ∧ ¬ x.1 = 10 ∧ ¬ x.1 = 11 ∧ ¬ x.1 = 13 ∧ ¬ x.1 = 14 ∧ (x.1 = 15 ∨ x.1 = 16 → ∃ b, b < U ∧ x.2.1 = nI b)
theorem pj.app {U : Nat} {C E : List IT} (h : pj U C) (h2 : pj U E) : pj U (C ++ E) := fun x hx => (List.mem_append.mp hx).elim (h x) (h2 x)
theorem pj.nil {U : Nat} : pj U [] := fun x hx => by cases hx
theorem LPz.plain {D : List IT} {U N : Nat} {out : Option Nat} {τ : Nat → Nat} : ∀ (C : List IT) (p : Nat), pj U C → SIt D p C τ → LPz D U N out p (p + C.length)
  | [], p, _, _ => LPz.nil
  | x :: C, p, h, hs => by
    obtain ⟨a1, a2, a3, a4, a5, a6⟩ := h x List.mem_cons_self
    obtain ⟨b1, b2, b3, b4, -⟩ := hs.hd
    have ln := hs.le (by rw [List.length_cons]; omega)
    have e : nx D p = p + 1 := by unfold nx; rw [b2, if_neg a4]
    rw [List.length_cons] at ln ⊢
    refine LPz.cons ?_ (by omega) (by omega) ln ⟨?_, ?_, ?_, ?_, ?_⟩
    · rw [e, show p + (C.length + 1) = p + 1 + C.length by omega]
      exact LPz.plain C (p + 1) (fun y hy => h y (List.mem_cons_of_mem _ hy)) hs.tl
    · rw [b2]; exact a5
    · rw [b2, b4 a1]; exact a6
    · rw [b2]; exact fun z => absurd z a2
    · rw [b2]; exact fun z => absurd z a3
    · rw [b2]; exact fun z => absurd z a4
/-- a body that is gone over; behind it E is come to -/
theorem LPz.wyL {D : List IT} {U N : Nat} {out : Option Nat} {τ : Nat → Nat} {n : Nat} {bd : Nat → Nat → List IT} {b : Nat} {mo : Bool} {p E : Nat} (hs : SIt D p (wy n bd b mo p) τ) (hE : E ≤ D.length) (ht : mo = true → τ (mE n) = E) (hb : SIt D (p + 1) (bd b (p + 1)) τ → LPz D U N out (p + 1) (p + 1 + (bd b (p + 1)).length)) (hr : LPz D U N out (p + (wy n bd b mo p).length) E) : LPz D U N out p E := by
  have hle := hr.le
  unfold wy at hs hr hle
  rw [List.length_cons, List.length_append] at hr hle
  obtain ⟨a1, a2, a3, a4, -⟩ := hs.hd
  have a2 : (D.getD p dIT).1 = 11 := a2
  have a4 : (D.getD p dIT).2.1 = nI (p + 1 + (bd b (p + 1)).length + (if mo = true then 1 else 0)) := a4 rfl
  have hB := hb hs.tl.l
  have e : nx D p = p + 1 := by unfold nx; rw [a2, if_neg (by decide)]
  have go : LPz D U N out (p + 1 + (bd b (p + 1)).length) E ∧ TQ D (p + 1 + (bd b (p + 1)).length) (p + 1 + (bd b (p + 1)).length + (if mo = true then 1 else 0)) E := by
    cases mo with
    | false =>
      rw [if_neg (by decide)] at hr hle ⊢
      rw [List.length_nil] at hr hle
      rw [show p + ((bd b (p + 1)).length + 0 + 1) = p + 1 + (bd b (p + 1)).length by omega] at hr
      exact ⟨hr, by omega, by omega, 0, rfl⟩
    | true =>
      rw [if_pos rfl] at hr hle ⊢
      rw [List.length_singleton] at hr hle
      have hg := hs.tl.r
      rw [if_pos rfl] at hg
      obtain ⟨g1, g2, g3, -, g5⟩ := hg.hd
      have g2 : (D.getD (p + 1 + (bd b (p + 1)).length) dIT).1 = 10 := g2
      have g5 : (D.getD (p + 1 + (bd b (p + 1)).length) dIT).2.1 = nI (τ (mE n)) := g5 (by show ¬ mE n = 0; unfold mE; omega)
      have e2 : nx D (p + 1 + (bd b (p + 1)).length) = p + 1 + (bd b (p + 1)).length + 1 := by unfold nx; rw [g2, if_neg (by decide)]
      rw [show p + ((bd b (p + 1)).length + 1 + 1) = p + 1 + (bd b (p + 1)).length + 1 by omega] at hr
      refine ⟨LPz.cons (by rw [e2]; exact hr) (by omega) (by omega) hE ⟨by rw [g2]; decide, fun z => by rw [g2] at z; exact absurd z (by decide), fun _ => ⟨E, by rw [g5, ht rfl], Or.inr hr.tq⟩, fun z => by rw [g2] at z; exact absurd z (by decide), fun z => by rw [g2] at z; exact absurd z (by decide)⟩, by omega, by omega, 1, by omega, e2⟩
  refine LPz.cons (by rw [e]; exact hB.app go.1 hE) (by omega) (by omega) hE ⟨by rw [a2]; decide, fun z => by rw [a2] at z; exact absurd z (by decide), fun z => by rw [a2] at z; exact absurd z (by decide), fun _ => ⟨_, a4, hB.tq.tr go.2⟩, fun z => by rw [a2] at z; exact absurd z (by decide)⟩
theorem LPz.ifL {D : List IT} {U N : Nat} {out : Option Nat} {τ : Nat → Nat} {n E : Nat} {e : Nat → List IT} {bd : Nat → Nat → List IT} (hE : E ≤ D.length) (ht : τ (mE n) = E) : ∀ (k : Nat) (L : List Nat) (p : Nat), L.length ≤ k → (∀ b, b ∈ L → ∀ p, SIt D p (bd b p) τ → LPz D U N out p (p + (bd b p).length)) → (∀ c, c ∈ L → pj U (e c)) → SIt D p (wIf n e bd L p) τ → p + (wIf n e bd L p).length = E → LPz D U N out p E := by
  intro k
  induction k with
  | zero =>
    intro L p hk _ _ _ hp
    rw [List.length_eq_zero_iff.mp (show L.length = 0 by omega)] at hp
    have hp : p + 0 = E := hp
    rw [← hp]
    exact LPz.nil
  | succ k ih =>
    intro L p hk hb he hs hp
    match L, hk, hb, he, hs, hp with
    | [], _, _, _, _, hp =>
      have hp : p + 0 = E := hp
      rw [← hp]
      exact LPz.nil
    | [b], _, hb, _, hs, hp =>
      have hp : p + (bd b p).length = E := hp
      rw [← hp]
      exact hb b List.mem_cons_self p hs
    | g :: b :: L, hk, hb, he, hs, hp =>
      have es : wIf n e bd (g :: b :: L) p = e g ++ (wy n bd b (!L.isEmpty) (p + (e g).length) ++ wIf n e bd L (p + (e g).length + (wy n bd b (!L.isEmpty) (p + (e g).length)).length)) := rfl
      rw [es] at hs hp
      rw [List.length_append, List.length_append] at hp
      refine (LPz.plain _ p (he g List.mem_cons_self) hs.l).app ?_ hE
      refine LPz.wyL hs.r.l hE (fun _ => ht) (hb b (List.mem_cons_of_mem _ List.mem_cons_self) _) ?_
      exact ih L _ (by simp at hk; omega) (fun z hz => hb z (List.mem_cons_of_mem _ (List.mem_cons_of_mem _ hz))) (fun z hz => he z (List.mem_cons_of_mem _ (List.mem_cons_of_mem _ hz))) hs.r.r (by omega)
theorem LPz.seq {D : List IT} {U N : Nat} {out : Option Nat} {τ : Nat → Nat} {f : Nat → Nat → List IT} : ∀ (L : List Nat) (p : Nat), (∀ c, c ∈ L → ∀ p, SIt D p (f c p) τ → LPz D U N out p (p + (f c p).length)) → SIt D p (seqC f L p) τ → (0 < (seqC f L p).length → p + (seqC f L p).length ≤ D.length) → LPz D U N out p (p + (seqC f L p).length)
  | [], p, _, _, _ => LPz.nil
  | c :: L, p, h, hs, hl => by
    have es : seqC f (c :: L) p = f c p ++ seqC f L (p + (f c p).length) := rfl
    rw [es] at hs hl ⊢
    rw [List.length_append] at hl ⊢
    have a := h c List.mem_cons_self p hs.l
    have b := LPz.seq L (p + (f c p).length) (fun x hx => h x (List.mem_cons_of_mem _ hx)) hs.r (fun z => by have := hl (by omega); omega)
    rw [show p + ((f c p).length + (seqC f L (p + (f c p).length)).length) = p + (f c p).length + (seqC f L (p + (f c p).length)).length by omega]
    by_cases z : 0 < (f c p).length + (seqC f L (p + (f c p).length)).length
    · exact a.app b (by have := hl z; omega)
    · have e1 : (f c p).length = 0 := by omega
      rw [e1, Nat.add_zero] at b ⊢
      exact b
