/-! THE REFERENCE'S RULES: what stands above; what may be assigned -/
theorem RB.nd {J : JV} {σ σ' : RS} {m m' : yM} (h : RB J σ m) (e1 : σ'.1 = σ.1) (e2 : σ'.2.1 = σ.2.1) (hk : ∀ t, kK J.2.2.1 t = 8 ∨ kK J.2.2.1 t = 9 ∨ kK J.2.2.1 t = 10 → σ'.2.2.1 t = σ.2.2.1 t ∧ σ'.2.2.2.1 t = σ.2.2.2.1 t ∧ σ'.2.2.2.2 t = σ.2.2.2.2 t) (hv : ∀ t, cnK (kK J.2.2.1 t) → σ'.2.2.2.1 t = σ.2.2.2.1 t) (g : ∀ a i, 69 < a → a < 84 → m'.1 a i = m.1 a i) (g5 : ∀ i, i = 3 ∨ i = 23 ∨ i = 29 ∨ i = 30 → m'.1 58 i = m.1 58 i) : RB J σ' m' := by
  have h := h.fr g g5
  obtain ⟨a, b, c⟩ := h
  have cur : curB σ' = curB σ := by unfold curB; rw [e1]
  have ib : inB σ' 3 ↔ inB σ 3 := by unfold inB; rw [cur, e1]
  refine ⟨?_, ?_, fun v x hv' => ?_⟩
  · obtain ⟨a1, a2, a3, a4, a5, a6⟩ := a
    refine ⟨a1, by rw [e1]; exact a2, by rw [e2]; exact a3, by rw [e1]; exact a4, by rw [e2]; exact a5, ?_⟩
    rw [a6]
    by_cases w : inB σ 3
    · rw [if_pos w, if_pos (ib.mpr w)]
    · rw [if_neg w, if_neg (fun y => w (ib.mp y))]
  · rw [e1, e2]; exact b
  · rw [e2] at hv'
    obtain ⟨c1, c2, c3⟩ := c v x hv'
    refine ⟨c1, c2, fun y e => ?_⟩
    obtain ⟨w1, w2, w3, w4, w5, w6⟩ := c3 y e
    obtain ⟨t1, t2, t3, t4⟩ := w4
    obtain ⟨k1, k2, k3⟩ := hk _ t2
    refine ⟨w1, w2, w3, ⟨t1, t2, by rw [k1]; exact t3, t4⟩, ?_, ?_⟩
    · unfold tyR
      rw [k1, k2, k3]
      rcases w5 with q | q | q
      · exact Or.inl q
      · refine Or.inr (Or.inl ⟨q.1, q.2.1, q.2.2.1, ?_, q.2.2.2.2⟩)
        have k9 : kK J.2.2.1 y.2.1 = 9 := by
          rcases t2 with z | z | z
          · rw [z] at t3; exact absurd (q.1.symm.trans t3) (by decide)
          · exact z
          · rw [z] at t3; exact absurd (q.1.symm.trans t3) (by decide)
        rw [hv _ (t4 k9)]
        exact q.2.2.2.1
      · exact Or.inr (Or.inr q)
    · unfold atR
      rw [cur]
      rcases w6 with ⟨q1, q2⟩ | ⟨w, k, q1, q2, q3, q4, q5, q6⟩
      · exact Or.inl ⟨q1, fun z => q2 (ib.mp z)⟩
      · exact Or.inr ⟨w, k, q1, q2, q3, q4, q5, ib.mpr q6⟩
/-- the way up from a node -/
def chR (F : List ND) : List Nat → Nat → Prop
  | [] => fun n => n = 0
  | p :: L => fun n => p < F.length ∧ (∃ j : Nat, (kids F p)[j]? = some n) ∧ chR F L p
def chn (F : List ND) (A : List Nat) (n : Nat) : Prop := chR F A.reverse n
/-- nodes above are as they were read -/
def upK (J : JV) (σ : RS) (A : List Nat) : Prop := ∀ p, p ∈ A → σ.2.2.1 p = nI (kK J.2.2.1 p) ∧ σ.2.2.2.1 p = vF J.2.2.1 p ∧ (kK J.2.2.1 p = 19 → ¬ vtF J.2.2.1 p = 0) ∧ kK J.2.2.1 p < 37
theorem chn.par {F : List ND} {A : List Nat} {p n : Nat} (h : chn F (A ++ [p]) n) : p < F.length ∧ (∃ j : Nat, (kids F p)[j]? = some n) ∧ chn F A p := by
  unfold chn at h ⊢
  rw [List.reverse_append] at h
  exact h
theorem JT.up {J : JV} {m : yM} (hT : JT J m) {p n : Nat} (hp : p < J.2.2.1.length) (hj : ∃ j : Nat, (kids J.2.2.1 p)[j]? = some n) : n < J.2.2.1.length ∧ m.1 65 (J.2.2.2 n) = nI (J.2.2.2 p) := by
  obtain ⟨j, hj⟩ := hj
  have := (hT.2.1 p hp).2.2.2.2.2.2.2.2 j n hj
  exact ⟨this.1, this.2.1⟩
theorem c342L (xs : List Int32) (d : Nat) {J : JV} {m : yM} (hT : JT J m) (z : Int32) (P : Nat → Bool) (hP : ∀ p, p < J.2.2.1.length → ((P p = true) ↔ (m.1 62 (J.2.2.2 p) = 19 ∧ (z = -1 ∨ m.1 64 (J.2.2.2 p) = z))) ∨ True) {Q : Option Value → yM → Prop} : ∀ (L : List Nat) (n : Nat) (u : Int32), chR J.2.2.1 L n → (∀ p, p ∈ L → ((P p = true) ↔ (m.1 62 (J.2.2.2 p) = 19 ∧ (z = -1 ∨ m.1 64 (J.2.2.2 p) = z)))) → (u = 0 ∨ u = 1) → Q (some (.int (if u = 1 ∨ L.any P = true then 1 else 0))) m → yP (xg xs) (d + 1) 342 10 [(0, .ref 58), (2, .int z), (3, .int u), (4, .int (m.1 65 (J.2.2.2 n)))] [] m Q
  | [], n, u, hc, hL, hu, K => by
    have e : n = 0 := hc
    subst e
    rw [hT.2.2.2.1]
    refine w342_10 xs d _ _ _ m _ ⟨fun _ => ⟨hu, ?_⟩, fun w => absurd rfl w⟩
    rcases hu with rfl | rfl
    · rw [if_neg (by simp)] at K; exact K
    · rw [if_pos (Or.inl rfl)] at K; exact K
  | p :: L, n, u, hc, hL, hu, K => by
    obtain ⟨p1, p2, p3⟩ := hc
    have up := hT.up p1 p2
    have hp := hL p List.mem_cons_self
    have ci := hT.c p1
    have xi := hT.x p1
    rw [up.2]
    have nx : ∀ u', (u' = 0 ∨ u' = 1) → (u' = 1 ↔ (u = 1 ∨ P p = true)) → yP (xg xs) (d + 1) 342 53 [(0, .ref 58), (2, .int z), (4, .int (nI (J.2.2.2 p)))] [.int u'] m Q := by
      intro u' hu' iff
      refine w342_53 xs d _ _ _ m _ ⟨xi, ?_⟩
      rw [ci]
      refine c342L xs d hT z P (fun _ _ => Or.inr trivial) L p u' p3 (fun q hq => hL q (List.mem_cons_of_mem _ hq)) hu' ?_
      have : (u' = 1 ∨ L.any P = true) ↔ (u = 1 ∨ (p :: L).any P = true) := by
        rw [List.any_cons, Bool.or_eq_true, iff]
        constructor
        · rintro ((q | q) | q)
          · exact Or.inl q
          · exact Or.inr (Or.inl q)
          · exact Or.inr (Or.inr q)
        · rintro (q | q | q)
          · exact Or.inl (Or.inl q)
          · exact Or.inl (Or.inr q)
          · exact Or.inr q
      by_cases w : u = 1 ∨ (p :: L).any P = true
      · rw [if_pos w] at K; rw [if_pos (this.mpr w)]; exact K
      · rw [if_neg w] at K; rw [if_neg (fun y => w (this.mp y))]; exact K
    have yes : (u = 1 ∨ P p = true) → yP (xg xs) (d + 1) 342 48 [(0, .ref 58), (2, .int z), (4, .int (nI (J.2.2.2 p)))] [] m Q := fun y => w342_48 xs d _ _ m _ (nx 1 (Or.inr rfl) ⟨fun _ => y, fun _ => rfl⟩)
    have no : ¬ (u = 1 ∨ P p = true) → yP (xg xs) (d + 1) 342 52 [(0, .ref 58), (2, .int z), (4, .int (nI (J.2.2.2 p)))] [] m Q := fun y => w342_52 xs d _ _ m _ (nx 0 (Or.inl rfl) ⟨fun q => absurd q (by decide), fun q => absurd q y⟩)
    refine w342_10 xs d _ _ _ m _ ⟨fun w => absurd w (nI_m1 (by have := hT.i p1; omega)), fun _ => ⟨fun w => yes (Or.inl (hu.resolve_left w)), fun w => ⟨xi, ?_⟩⟩⟩
    rw [ci]
    have u1 : ¬ u = 1 := by rw [w]; decide
    refine ⟨fun q => no (fun y => y.elim u1 (fun y => q (hp.mp y).1)), fun q => ⟨fun q2 => yes (Or.inr (hp.mpr ⟨q, Or.inl q2⟩)), fun q2 => ⟨xi, fun q3 => no (fun y => y.elim u1 (fun y => (hp.mp y).2.elim q2 q3)), fun q3 => yes (Or.inr (hp.mpr ⟨q, Or.inr q3⟩))⟩⟩⟩
theorem rev_any (A : List Nat) (P : Nat → Bool) : A.reverse.any P = A.any P := List.any_reverse
/-- standsIn: any loop above -/
theorem c342a (xs : List Int32) (d : Nat) {J : JV} {σ : RS} {m : yM} (hT : JT J m) {A : List Nat} {n : Nat} (hn : n < J.2.2.1.length) (hc : chn J.2.2.1 A n) (hA : upK J σ A) (hl : ∀ p, p ∈ A → p < J.2.2.1.length) : yC (xg xs) (d + 1) 342 [.ref 58, .int (nI (J.2.2.2 n)), .int (-1)] m (fun r m' => r = some (.int (if A.any (for0 σ) = true then 1 else 0)) ∧ m' = m) := by
  refine w342_0 xs d _ _ m _ ⟨hT.x hn, ?_⟩
  rw [hT.c hn]
  refine c342L xs d hT (-1) (for0 σ) (fun _ _ => Or.inr trivial) A.reverse n 0 hc (fun p hp => ?_) (Or.inl rfl) ⟨?_, rfl⟩
  · have hp := List.mem_reverse.mp hp
    obtain ⟨h1, h2, h3, h4⟩ := hA p hp
    have nx := hT.2.1 p (hl p hp)
    unfold for0
    rw [decide_eq_true_iff, h1, nx.2.1]
    exact ⟨fun q => ⟨q, Or.inl rfl⟩, fun q => q.1⟩
  · rw [rev_any]
    by_cases q : A.any (for0 σ) = true
    · rw [if_pos q, if_pos (Or.inr q)]
    · rw [if_neg q, if_neg (fun y => y.elim (fun y => absurd y (by decide)) q)]
theorem c342b (xs : List Int32) (d : Nat) {J : JV} (hN : JN J) {σ : RS} {m : yM} (hT : JT J m) {A : List Nat} {n : Nat} (hn : n < J.2.2.1.length) (hc : chn J.2.2.1 A n) (hA : upK J σ A) (hl : ∀ p, p ∈ A → p < J.2.2.1.length) {x y : Int32} (hx : NM J x y) : yC (xg xs) (d + 1) 342 [.ref 58, .int (nI (J.2.2.2 n)), .int y] m (fun r m' => r = some (.int (if A.any (forP σ x) = true then 1 else 0)) ∧ m' = m) := by
  refine w342_0 xs d _ _ m _ ⟨hT.x hn, ?_⟩
  rw [hT.c hn]
  have y1 : ¬ y = -1 := by
    obtain ⟨j, k, j0, j1, k1, rfl, rfl, e, nm⟩ := hx
    have := hN.2.2.2.2
    exact nI_m1 (by omega)
  refine c342L xs d hT y (forP σ x) (fun _ _ => Or.inr trivial) A.reverse n 0 hc (fun p hp => ?_) (Or.inl rfl) ⟨?_, rfl⟩
  · have hp := List.mem_reverse.mp hp
    obtain ⟨h1, h2, h3, h4⟩ := hA p hp
    have nx := hT.2.1 p (hl p hp)
    unfold forP
    rw [decide_eq_true_iff, h1, h2, nx.2.1]
    have e19 : nI (kK J.2.2.1 p) = 19 ↔ kK J.2.2.1 p = 19 := nI_eq (a := kK J.2.2.1 p) (b := 19) (by omega) (by omega)
    constructor
    · rintro ⟨q1, q2⟩
      have hv := nx.2.2.2.2.1 (h3 (e19.mp q1))
      exact ⟨q1, Or.inr ((NM.eq hN hv hx).mp q2)⟩
    · rintro ⟨q1, q2⟩
      have hv := nx.2.2.2.2.1 (h3 (e19.mp q1))
      exact ⟨q1, (NM.eq hN hv hx).mpr (q2.resolve_left y1)⟩
  · rw [rev_any]
    by_cases q : A.any (forP σ x) = true
    · rw [if_pos q, if_pos (Or.inr q)]
    · rw [if_neg q, if_neg (fun y => y.elim (fun y => absurd y (by decide)) q)]
theorem plD : ∀ w, w < 6 → ∀ k, k < 256 → ((nI (256 * w + k) / 256 - nI (256 * w + k) / 256 / 3 * 3 = 0) ↔ (w = 0 ∨ w = 3)) ∧ ¬ nI (256 * w + k) = -1 := by decide +kernel
theorem plR0 : ∀ w, w < 6 → ∀ k, k < 256 → (¬ (w < 3 ∨ k < 64)) ∨ (decide (rdP (nI (plC w k))) = decide (w = 0 ∨ w = 3)) := by decide +kernel
theorem plR (w : Nat) (hw : w < 6) (k : Nat) (hk : k < 256) (h : 3 ≤ w → k < 64) : (rdP (nI (plC w k)) ↔ (w = 0 ∨ w = 3)) := by
  have := (plR0 w hw k hk).resolve_left (fun z => z (by omega))
  exact decide_eq_decide.mp this
/-- assigned: what is broken -/
theorem c341 (xs : List Int32) (d : Nat) {J : JV} (hN : JN J) {σ : RS} {m : yM} (hT : JT J m) (hR : RB J σ m) {A : List Nat} {n : Nat} (hn : n < J.2.2.1.length) (hc : chn J.2.2.1 A n) (hA : upK J σ A) (hl : ∀ p, p ∈ A → p < J.2.2.1.length) {v : Nat} (hv : vOk σ v) (hf : (curB σ).2.2.2.2 ≤ v) : yC (xg xs) (d + 2) 341 [.ref 58, .int (nI (J.2.2.2 n)), .int (nI v)] m (fun r m' => r = none ∧ m' = if fAs σ A v = 0 then m else flM2 J m (fAs σ A v) n) := by
  obtain ⟨vl, w1, w2, w3, w4, w5, w6⟩ := hR.d hv
  have n2 := hR.nV.2
  have hx := hR.v vl
  have xv : x_in (nI v) 4700 = true := x_in_nI (by omega) (by decide)
  have cv : (nI v).toNatClampNeg = v := nI_clamp (by omega)
  have f0 := hR.f0
  have s43 : ∀ u : Int32, u = (if (vD σ v).1 = 1 ∨ (inB σ 3 ∧ rdP (vD σ v).2.2.2) then 1 else 0) → yP (xg xs) (d + 2) 341 43 [(0, .ref 58), (1, .int (nI (J.2.2.2 n))), (2, .int (nI v))] [.int u, .int (29 : Int32), .ref 58] m (fun r m' => r = none ∧ m' = if fAs σ A v = 0 then m else flM2 J m (fAs σ A v) n) := by
    intro u hu
    refine w341_43 xs (d + 1) _ _ _ _ m _ ?_
    unfold fAs
    by_cases p : (vD σ v).1 = 1 ∨ (inB σ 3 ∧ rdP (vD σ v).2.2.2)
    · rw [if_pos p] at hu
      subst hu
      rw [if_pos p, if_neg (by decide)]
      refine rl1 (by omega) hT hn f0 ⟨xv, ?_⟩
      have fe := FE.mk J m (show (0 : Int32) < 29 by decide) n
      have jk : JK m (flM2 J m 29 n) := (JK.re m).fl J 29 n
      have hT1 := hT.k jk
      have e75 : (flM2 J m 29 n).1 75 v = m.1 75 v := by unfold flM2; rw [y_si_at, if_neg (by omega), y_si_at, if_neg (by omega)]
      rw [cv, e75]
      refine y_ci (c342b xs d hN hT1 hn hc hA hl hx) (by omega) ?_
      exact rl2 (by omega) (hT.i hn) (by split <;> simp) fe.ne ⟨rfl, rfl⟩
    · rw [if_neg p] at hu
      subst hu
      rw [if_neg p]
      refine rl0 ⟨xv, ?_⟩
      rw [cv]
      refine y_ci (c342b xs d hN hT hn hc hA hl hx) (by omega) ?_
      by_cases q : A.any (forP σ (σ.2.1.getD v dVK).1) = true
      · rw [if_pos q, if_pos q, if_neg (by decide)]
        exact rl1 (by omega) hT hn f0 ⟨rfl, rfl⟩
      · rw [if_neg q, if_neg q, if_pos rfl]
        exact rl0 ⟨rfl, rfl⟩
  have yes : ((vD σ v).1 = 1 ∨ (inB σ 3 ∧ rdP (vD σ v).2.2.2)) → _ := fun p => w341_38 xs (d + 1) _ _ _ m _ (s43 1 (by rw [if_pos p]))
  have no : ¬ ((vD σ v).1 = 1 ∨ (inB σ 3 ∧ rdP (vD σ v).2.2.2)) → _ := fun p => w341_42 xs (d + 1) _ _ _ m _ (s43 0 (by rw [if_neg p]))
  refine w341_0 xs (d + 1) _ _ m _ ⟨xv, ?_⟩
  rw [cv, w1]
  refine ⟨fun q => yes (Or.inl q), fun q => ⟨xv, ?_⟩⟩
  rcases w6 with ⟨a1, a2⟩ | ⟨w, k, a1, a2, a3, a4, a5, a6⟩
  · rw [a1]
    exact ⟨fun _ => no (fun z => z.elim q (fun z => a2 z.1 hf (rd_lw z.2))), fun z => absurd rfl z⟩
  · rw [a4]
    obtain ⟨p1, p2⟩ := plD w a1 k a2
    have p3 := plR w a1 k a2 a3
    refine ⟨fun z => absurd z p2, fun _ => ⟨xv, by decide, by decide, fun z => no (fun y => y.elim q (fun y => ?_)), fun z => yes (Or.inr ⟨a6, ?_⟩)⟩⟩
    · rw [a5] at y
      exact z (p1.mpr (p3.mp y.2))
    · rw [a5]
      exact p3.mpr (p1.mp z)
