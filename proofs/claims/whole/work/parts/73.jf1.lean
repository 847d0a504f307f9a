/-! THE REFERENCE'S RULES: statements -/
theorem JT.k0 {J : JV} {m : yM} (hT : JT J m) {n c : Nat} (hn : n < J.2.2.1.length) (hc : (kids J.2.2.1 n)[0]? = some c) : m.1 66 (J.2.2.2 n) = nI (J.2.2.2 c) := by
  rw [(hT.2.1 n hn).2.2.2.2.2.1, hc]
  rfl
theorem JT.ka {J : JV} {m : yM} (hT : JT J m) {n c : Nat} (hn : n < J.2.2.1.length) (hc : (kids J.2.2.1 n)[(kids J.2.2.1 n).length - 1]? = some c) : m.1 67 (J.2.2.2 n) = nI (J.2.2.2 c) := by
  rw [(hT.2.1 n hn).2.2.2.2.2.2.1, hc]
  rfl
theorem JT.kc {J : JV} {m : yM} (hT : JT J m) {n j c : Nat} (hn : n < J.2.2.1.length) (hc : (kids J.2.2.1 n)[j]? = some c) : c < J.2.2.1.length ∧ m.1 65 (J.2.2.2 c) = nI (J.2.2.2 n) ∧ m.1 68 (J.2.2.2 c) = lkI J.2.2.2 (kids J.2.2.1 n)[j + 1]? := (hT.2.1 n hn).2.2.2.2.2.2.2.2 j c hc
theorem RJ.n {J : JV} {D : Nat → Prop} {σ : RS} {m : yM} (h : RJ J D σ m) {i : Nat} (hi : D i) : i < J.2.2.1.length ∧ nvR J σ m i := h.2.2 i hi
theorem RJ.t {J : JV} {D : Nat → Prop} {σ : RS} {m : yM} (h : RJ J D σ m) {i : Nat} (hi : D i) (hk : exK (kK J.2.2.1 i)) : m.1 84 (J.2.2.2 i) = σ.2.2.2.2 i := ((h.n hi).2.1 hk).1
/-- a fault or none -/
def flb (J : JV) (m : yM) (c : Int32) (n : Nat) (b : Bool) : yM := if b = true then flM2 J m c n else m
theorem flb_t (J : JV) (m : yM) (c : Int32) (n : Nat) : flb J m c n true = flM2 J m c n := rfl
theorem flb_f (J : JV) (m : yM) (c : Int32) (n : Nat) : flb J m c n false = m := rfl
theorem flb_at (J : JV) (m : yM) (c : Int32) (n : Nat) (b : Bool) (a i : Nat) (h : ¬ a = 58) : (flb J m c n b).1 a i = m.1 a i := by
  cases b
  · rfl
  · rw [flb_t]
    unfold flM2
    rw [y_si_at, if_neg (by omega), y_si_at, if_neg (by omega)]
theorem JK.fb {m m' : yM} (J : JV) (h : JK m m') (c : Int32) (n : Nat) (b : Bool) : JK m (flb J m' c n b) := by
  cases b
  · exact h
  · exact h.fl J c n
theorem rlb {xs : List Int32} {D : Nat} (hD : 1 ≤ D) {J : JV} {m : yM} {f : Int32} (hf : 0 < f) {n : Nat} {K : yM → Prop} (hT : JT J m) (hn : n < J.2.2.1.length) (h3 : m.1 58 3 = 0) (b c : Bool) {u : Int32} (hu : u = if c = true then 1 else 0) (h : K (flb J m f n (b || c))) : yC (xg xs) D 323 [.ref 58, .int f, .int u, .int (nI (J.2.2.2 n))] (flb J m f n b) (fun r m' => r = none ∧ K m') := by
  cases c
  · rw [Bool.or_false] at h
    subst hu
    exact rl0 h
  · subst hu
    rw [Bool.or_true] at h
    cases b
    · exact rl1 hD hT hn h3 h
    · exact rl2 hD (hT.i hn) (Or.inr rfl) (FE.mk J m hf n).ne h
theorem JQ.fb {J : JV} {D : Nat → Prop} {σ : RS} {m m1 : yM} {n : Nat} (jk : JK m m1) {c : Int32} (hc : 0 < c) {p : Prop} [Decidable p] (h : ¬ p → RJ J D σ m1) : JQ J D m n (if p then .inr c else .inl σ) none (flb J m1 c n (decide p)) := by
  by_cases q : p
  · rw [if_pos q, decide_eq_true q, flb_t]
    exact ⟨rfl, jk.fl J c n, FE.mk J m1 hc n⟩
  · rw [if_neg q, decide_eq_false q, flb_f]
    exact ⟨rfl, jk, h q⟩
theorem c343 (xs : List Int32) (d : Nat) (m : yM) (x y : Int32) : yC (xg xs) (d + 1) 343 [.int x, .int y] m (fun r m' => r = some (.int (if ftP x y then 1 else 0)) ∧ m' = m) := by
  refine w343_0 xs d _ _ m _ ⟨fun u => ⟨?_, rfl⟩, fun u => ⟨fun v => ⟨?_, rfl⟩, fun v => ⟨fun w => ⟨?_, rfl⟩, fun w => ⟨?_, rfl⟩⟩⟩⟩
  · rw [if_pos (Or.inl u)]
  · rw [if_neg (fun z => z.elim u (fun z => v z.1))]
  · rw [if_neg (fun z => z.elim u (fun z => w z.2))]
  · rw [if_pos (Or.inr ⟨v, w⟩)]
/-- where a node stands -/
def AT (J : JV) (σ : RS) (A : List Nat) (n : Nat) : Prop := n < J.2.2.1.length ∧ chn J.2.2.1 A n ∧ upK J σ A ∧ ∀ p, p ∈ A → p < J.2.2.1.length
theorem fAs_p {σ : RS} {A : List Nat} {v : Nat} (h : ¬ fAs σ A v = 0) : 0 < fAs σ A v := by
  unfold fAs at h ⊢
  split
  · decide
  · split
    · decide
    · rename_i a b; rw [if_neg a, if_neg b] at h; exact absurd rfl h
/-- an assignment -/
theorem c340_12 (xs : List Int32) (d : Nat) {J : JV} (hN : JN J) {D : Nat → Prop} {σ : RS} {m : yM} (h : RJ J D σ m) {A : List Nat} {n : Nat} (hA : AT J σ A n) (hK : kids J.2.2.1 n = [n + 1, n + 1 + szF J.2.2.1 (n + 1)]) (k1 : kK J.2.2.1 (n + 1) = 6 ∨ kK J.2.2.1 (n + 1) = 32) (k2 : exK (kK J.2.2.1 (n + 1 + szF J.2.2.1 (n + 1)))) (d1 : D (n + 1)) (d2 : D (n + 1 + szF J.2.2.1 (n + 1))) {v : Nat} (hv : σ.2.2.2.1 (n + 1) = nI v) (vo : vOk σ v) (hf : (curB σ).2.2.2.2 ≤ v) : yC (xg xs) (d + 3) 340 [.ref 58, .int (nI (J.2.2.2 n)), .int 12] m (JQ J D m n (lkAsg J.2.2.1 σ A n)) := by
  obtain ⟨hn, hc, hu, hl⟩ := hA
  have hT := h.1
  have hR := h.2.1
  have ei := hT.c hn
  have xi := hT.x hn
  have n1 := (h.n d1).1
  have n2 := (h.n d2).1
  have f0 := hR.f0
  have e0 := hT.k0 hn (c := n + 1) (by rw [hK]; rfl)
  have a1 := (hT.kc hn (j := 0) (c := n + 1) (by rw [hK]; rfl)).2.2
  rw [hK] at a1
  have a1 : m.1 68 (J.2.2.2 (n + 1)) = nI (J.2.2.2 (n + 1 + szF J.2.2.1 (n + 1))) := a1
  have t1 := h.t d1 (by rcases k1 with z | z <;> rw [z] <;> decide)
  have t2 := h.t d2 k2
  have v1 : m.1 85 (J.2.2.2 (n + 1)) = nI v := by rw [← hv]; exact (h.n d1).2.2.1 (by omega)
  have vl := (hR.d vo).1
  have vb := hR.nV.2
  unfold lkAsg
  generalize n + 1 + szF J.2.2.1 (n + 1) = e at *
  rw [hv, nI_clamp (by omega)]
  have c1 := hT.c n1
  have c2 := hT.c n2
  refine w340_0 xs (d + 2) _ _ m _ ⟨fun _ => ⟨xi, ?_⟩, fun w => absurd w (by decide), fun w => absurd w (by decide), fun w => absurd w (by decide), fun w => absurd w (by decide), fun w => absurd w (by decide), fun w => absurd w (by decide), fun w => absurd w (by decide), fun w => absurd rfl w⟩
  rw [ei, e0, c1, v1]
  refine ⟨hT.x n1, y_cv (c341 xs d hN hT hR hn hc hu hl vo hf) (by omega) ?_⟩
  by_cases q : fAs σ A v = 0
  · rw [if_pos q, a1, c2, t1, t2, if_neg (fun z => z q)]
    refine ⟨hT.x n1, hT.x n2, hT.x n1, y_ci (c343 xs (d + 1) m _ _) (by omega) ⟨fun w => ?_, fun w => ?_⟩⟩
    · rw [if_pos (if1 w)]
      exact w340_101 xs (d + 2) _ _ _ m _ (rl0 ⟨rfl, JK.re m, h⟩)
    · rw [if_neg (if0 w)]
      exact w340_101 xs (d + 2) _ _ _ m _ (rl1 (by omega) hT hn f0 ⟨rfl, (JK.re m).fl J 31 n, FE.mk J m (by decide) n⟩)
  · rw [if_neg q, if_pos q]
    have fe := FE.mk J m (fAs_p q) n
    have jk := (JK.re m).fl J (fAs σ A v) n
    generalize flM2 J m (fAs σ A v) n = m1 at fe jk
    have a68 : m1.1 68 (J.2.2.2 (n + 1)) = nI (J.2.2.2 e) := by rw [jk.1 68 _ (by omega) (by omega)]; exact a1
    rw [a68, c2]
    refine ⟨hT.x n1, hT.x n2, hT.x n1, y_ci (c343 xs (d + 1) m1 _ _) (by omega) ⟨fun w => ?_, fun w => ?_⟩⟩
    · exact w340_101 xs (d + 2) _ _ _ m1 _ (rl0 ⟨rfl, jk, fe⟩)
    · exact w340_101 xs (d + 2) _ _ _ m1 _ (rl2 (by omega) (hT.i hn) (Or.inr rfl) fe.ne ⟨rfl, jk, fe⟩)
/-- an instance is called -/
theorem c340_13 (xs : List Int32) (d : Nat) {J : JV} (hN : JN J) {D : Nat → Prop} {σ : RS} {m : yM} (h : RJ J D σ m) (h0 : 0 < σ.1.length) (hd : dsB σ) (hD : allD σ) {n : Nat} (hn : n < J.2.2.1.length) (hvt : ¬ vtF J.2.2.1 n = 0) (hvn : σ.2.2.2.1 n = vF J.2.2.1 n) (kn : kK J.2.2.1 n = 13) : yC (xg xs) (d + 4) 340 [.ref 58, .int (nI (J.2.2.2 n)), .int 13] m (JQ J (fun i => D i ∨ i = n) m n (lkInv σ n)) := by
  have hT := h.1
  have hR := h.2.1
  have f0 := hR.f0
  have n2 := hR.nV.2
  refine w340_0 xs (d + 3) _ _ m _ ⟨fun w => absurd w (by decide), fun _ => ?_, fun w => absurd w (by decide), fun w => absurd w (by decide), fun w => absurd w (by decide), fun w => absurd w (by decide), fun w => absurd w (by decide), fun w => absurd w (by decide), fun _ w => absurd rfl w⟩
  refine y_ci (c344 xs d hN hT hR h0 hd hD hn hvt (s := 2) (form := 10) (Or.inr (Or.inr ⟨rfl, rfl⟩))) (by omega) ?_
  unfold lkInv
  rw [hvn]
  generalize hX : vF J.2.2.1 n = x at hvn
  have fm : frm (setV σ n (fVar σ x)) (fVar σ x).toNatClampNeg = frm σ (fVar σ x).toNatClampNeg := rfl
  rw [fm]
  have bad : ∀ c : Int32, 0 < c → JQ J (fun i => D i ∨ i = n) m n (.inr c) none (y_si (flM2 J m c n) 85 (J.2.2.2 n) (fVar σ x)) := by
    intro c hc
    have fe := FE.mk J m hc n
    exact ⟨rfl, ((JK.re m).fl J c n).si (by omega), by rw [y_si_at, if_neg (by omega)]; exact fe.1, fe.2.1, by rw [y_si_at, if_neg (by omega)]; exact fe.2.2⟩
  unfold nmF
  by_cases q1 : fVar σ x = -1
  · rw [if_pos q1, if_pos q1, if_neg (by decide)]
    exact bad 20 (by decide)
  · rw [if_neg q1, if_neg q1]
    by_cases q2 : frm σ (fVar σ x).toNatClampNeg = 10
    · rw [if_pos q2, if_pos q2, if_pos rfl]
      have jk : JK m (y_si m 85 (J.2.2.2 n) (fVar σ x)) := (JK.re m).si (by omega)
      refine ⟨rfl, jk, RJ.up h hn jk (fun a i h1 h2 => ?_) (fun a i h1 h2 h3 => ?_) (fun i hi => ?_) rfl rfl (fun i hi => ⟨rfl, upI_o _ _ hi, rfl⟩) (by omega) (fun z => by omega) ?_⟩
      · rw [y_si_at, if_neg (by omega)]
      · rw [y_si_at, if_neg (fun z => h3 z.2)]
      · rw [y_si_at, if_neg (by omega)]
      · refine ⟨fun z => by omega, fun _ => ?_, fun z => by omega, fun z => by omega⟩
        rw [y_si_same]
        exact (upI_n _ _ _).symm
    · rw [if_neg q2, if_neg q2, if_neg (by decide)]
      exact bad 21 (by decide)
/-- IF: each condition is BOOL -/
theorem c340_15L (xs : List Int32) (d : Nat) {J : JV} {D : Nat → Prop} {σ : RS} {m : yM} (h : RJ J D σ m) {n : Nat} (hn : n < J.2.2.1.length) (hK : ∀ (j c : Nat), (kids J.2.2.1 n)[j]? = some c → (kK J.2.2.1 c = 11 ∧ σ.2.2.1 c = 11) ∨ (exK (kK J.2.2.1 c) ∧ ¬ σ.2.2.1 c = 11 ∧ D c)) : ∀ (K : List Nat) (j : Nat) (b : Bool), (kids J.2.2.1 n).drop j = K → yP (xg xs) (d + 2) 340 133 [(0, .ref 58), (1, .int (nI (J.2.2.2 n))), (3, .int (lkI J.2.2.2 (kids J.2.2.1 n)[j]?))] [] (flb J m 34 n b) (fun r m' => r = none ∧ m' = flb J m 34 n (b || K.any (ifB σ)))
  | [], j, b, e => by
    have : (kids J.2.2.1 n)[j]? = none := by
      rw [List.getElem?_eq_none_iff]
      exact List.drop_eq_nil_iff.mp e
    rw [this]
    refine w340_133 xs (d + 1) _ _ _ _ ⟨fun _ => ⟨rfl, ?_⟩, fun w => absurd rfl w⟩
    rw [List.any_nil, Bool.or_false]
  | c :: K, j, b, e => by
    have hT := h.1
    have hj : (kids J.2.2.1 n)[j]? = some c := by
      have := congrArg (fun l => l[0]?) e
      simpa using this
    have e' : (kids J.2.2.1 n).drop (j + 1) = K := by
      have := congrArg (List.drop 1) e
      rw [List.drop_drop] at this
      simpa using this
    obtain ⟨c1, c2, c3⟩ := hT.kc hn hj
    rw [hj]
    have ec : lkI J.2.2.2 (some c) = nI (J.2.2.2 c) := rfl
    rw [ec]
    have xc := hT.x c1
    have cc := hT.c c1
    have s166 : ∀ (u : Int32) (q : Bool), u = (if q = true then 1 else 0) → q = ifB σ c → yP (xg xs) (d + 2) 340 166 [(0, .ref 58), (1, .int (nI (J.2.2.2 n))), (3, .int (nI (J.2.2.2 c)))] [.int u, .int (34 : Int32), .ref 58] (flb J m 34 n b) (fun r m' => r = none ∧ m' = flb J m 34 n (b || (c :: K).any (ifB σ))) := by
      intro u q hu hq
      refine w340_166 xs (d + 1) _ _ _ _ _ _ (rlb (by omega) (by decide) hT hn h.2.1.f0 b q hu ⟨xc, ?_⟩)
      rw [cc, flb_at _ _ _ _ _ _ _ (by decide), c3, List.any_cons, ← hq, ← Bool.or_assoc]
      exact c340_15L xs d h hn hK K (j + 1) (b || q) e'
    have nx := hT.2.1 c c1
    refine w340_133 xs (d + 1) _ _ _ _ ⟨fun w => absurd w (nI_m1 (by have := hT.i c1; omega)), fun _ => ⟨xc, ?_⟩⟩
    rw [cc, flb_at _ _ _ _ _ _ _ (by decide), flb_at _ _ _ _ _ _ _ (by decide), nx.2.1]
    rcases hK j c hj with ⟨k1, k2⟩ | ⟨k1, k2, k3⟩
    · have no : ifB σ c = false := decide_eq_false (fun z => z.1 k2)
      rw [k1]
      exact ⟨fun _ => w340_165 xs (d + 1) _ _ _ _ _ (s166 0 false rfl no.symm), fun w => absurd rfl w⟩
    · have k11 : ¬ nI (kK J.2.2.1 c) = 11 := fun z => by
        have := (nI_eq (a := kK J.2.2.1 c) (b := 11) (by omega) (by omega)).mp z
        omega
      rw [h.t k3 k1]
      refine ⟨fun w => absurd w k11, fun _ => ⟨xc, fun w => w340_165 xs (d + 1) _ _ _ _ _ (s166 0 false rfl ?_), fun w => s166 1 true rfl ?_⟩⟩
      · exact (decide_eq_false (fun z => z.2 w)).symm
      · exact (decide_eq_true ⟨k2, w⟩).symm
theorem c340_15 (xs : List Int32) (d : Nat) {J : JV} {D : Nat → Prop} {σ : RS} {m : yM} (h : RJ J D σ m) {n : Nat} (hn : n < J.2.2.1.length) (hK : ∀ (j c : Nat), (kids J.2.2.1 n)[j]? = some c → (kK J.2.2.1 c = 11 ∧ σ.2.2.1 c = 11) ∨ (exK (kK J.2.2.1 c) ∧ ¬ σ.2.2.1 c = 11 ∧ D c)) : yC (xg xs) (d + 2) 340 [.ref 58, .int (nI (J.2.2.2 n)), .int 15] m (JQ J D m n (lkIf J.2.2.1 σ n)) := by
  have hT := h.1
  refine w340_0 xs (d + 1) _ _ m _ ⟨fun w => absurd w (by decide), fun w => absurd w (by decide), fun w => absurd w (by decide), fun _ => ⟨hT.x hn, ?_⟩, fun w => absurd w (by decide), fun w => absurd w (by decide), fun w => absurd w (by decide), fun w => absurd w (by decide), fun _ _ _ w => absurd rfl w⟩
  rw [hT.c hn, (hT.2.1 n hn).2.2.2.2.2.1]
  refine yP.mono (Nat.le_refl _) (fun r m' q => ?_) (c340_15L xs d h hn hK _ 0 false rfl)
  obtain ⟨rfl, rfl⟩ := q
  unfold lkIf
  have := JQ.fb (n := n) (σ := σ) (D := D) (JK.re m) (show (0 : Int32) < 34 by decide) (p := (kids J.2.2.1 n).any (ifB σ) = true) (fun _ => h)
  rw [Bool.decide_eq_true] at this
  exact this
/-- CASE -/
theorem c340_16 (xs : List Int32) (d : Nat) {J : JV} {D : Nat → Prop} {σ : RS} {m : yM} (h : RJ J D σ m) {n : Nat} (hn : n < J.2.2.1.length) (hK : (kids J.2.2.1 n)[0]? = some (n + 1)) (k1 : exK (kK J.2.2.1 (n + 1))) (d1 : D (n + 1)) : yC (xg xs) (d + 2) 340 [.ref 58, .int (nI (J.2.2.2 n)), .int 16] m (JQ J D m n (if σ.2.2.2.2 (n + 1) = 0 then .inr 34 else .inl σ)) := by
  have hT := h.1
  have n1 := (h.n d1).1
  refine w340_0 xs (d + 1) _ _ m _ ⟨fun w => absurd w (by decide), fun w => absurd w (by decide), fun w => absurd w (by decide), fun w => absurd w (by decide), fun _ => ⟨hT.x hn, ?_⟩, fun w => absurd w (by decide), fun w => absurd w (by decide), fun w => absurd w (by decide), fun _ _ _ _ w => absurd rfl w⟩
  rw [hT.c hn, hT.k0 hn hK, hT.c n1, h.t d1 k1]
  refine ⟨hT.x n1, fun w => ?_, fun w => ?_⟩
  · rw [if_neg w]
    exact w340_205 xs (d + 1) _ _ _ m _ (rl0 ⟨rfl, JK.re m, h⟩)
  · rw [if_pos w]
    exact w340_205 xs (d + 1) _ _ _ m _ (rl1 (by omega) hT hn h.2.1.f0 ⟨rfl, (JK.re m).fl J 34 n, FE.mk J m (by decide) n⟩)
/-- a range of labels -/
theorem c340_18 (xs : List Int32) (d : Nat) {J : JV} {D : Nat → Prop} {σ : RS} {m : yM} (h : RJ J D σ m) {n l : Nat} (hn : n < J.2.2.1.length) (hK : (kids J.2.2.1 n)[0]? = some (n + 1)) (hL : (kids J.2.2.1 n)[(kids J.2.2.1 n).length - 1]? = some l) (el : n + szF J.2.2.1 n - 1 = l) (k1 : ∀ i, i = n + 1 ∨ i = l → i < J.2.2.1.length ∧ kK J.2.2.1 i < 37 ∧ σ.2.2.1 i = nI (kK J.2.2.1 i) ∧ vtF J.2.2.1 i = 0 ∧ σ.2.2.2.1 i = vF J.2.2.1 i) : yC (xg xs) (d + 2) 340 [.ref 58, .int (nI (J.2.2.2 n)), .int 18] m (JQ J D m n (lkRng J.2.2.1 σ n)) := by
  have hT := h.1
  obtain ⟨a1, a2, a3, a4, a5⟩ := k1 (n + 1) (Or.inl rfl)
  obtain ⟨b1, b2, b3, b4, b5⟩ := k1 l (Or.inr rfl)
  have na := hT.2.1 _ a1
  have nb := hT.2.1 _ b1
  unfold lkRng
  rw [el]
  have yes : ∀ {p : Prop} [Decidable p], p → yP (xg xs) (d + 2) 340 269 [(1, .int (nI (J.2.2.2 n)))] [.int (35 : Int32), .ref 58] m (JQ J D m n (if p then .inr 35 else .inl σ)) := by
    intro p _ q
    rw [if_pos q]
    exact w340_269 xs (d + 1) _ _ m _ (w340_274 xs (d + 1) _ _ _ m _ (rl1 (by omega) hT hn h.2.1.f0 ⟨rfl, (JK.re m).fl J 35 n, FE.mk J m (by decide) n⟩))
  refine w340_0 xs (d + 1) _ _ m _ ⟨fun w => absurd w (by decide), fun w => absurd w (by decide), fun w => absurd w (by decide), fun w => absurd w (by decide), fun w => absurd w (by decide), fun _ => ⟨hT.x hn, hT.x hn, ?_⟩, fun w => absurd w (by decide), fun w => absurd w (by decide), fun _ _ _ _ _ w => absurd rfl w⟩
  rw [hT.c hn, hT.k0 hn hK, hT.ka hn hL, hT.c a1, hT.c b1, na.2.1, nb.2.1, na.2.2.2.1 a4, nb.2.2.2.1 b4, ← a3, ← b3, ← a5, ← b5]
  refine ⟨hT.x a1, fun w => yes (Or.inl w), fun w => ⟨hT.x b1, fun w2 => yes (Or.inr (Or.inl w2)), fun w2 => ⟨hT.x a1, hT.x b1, fun w3 => ?_, fun w3 => yes (Or.inr (Or.inr w3))⟩⟩⟩
  rw [if_neg (fun z => z.elim w (fun z => z.elim w2 (fun z => z w3)))]
  exact w340_274 xs (d + 1) _ _ _ m _ (rl0 ⟨rfl, JK.re m, h⟩)
/-- EXIT -/
theorem c340_20 (xs : List Int32) (d : Nat) {J : JV} {D : Nat → Prop} {σ : RS} {m : yM} (h : RJ J D σ m) {A : List Nat} {n : Nat} (hA : AT J σ A n) : yC (xg xs) (d + 2) 340 [.ref 58, .int (nI (J.2.2.2 n)), .int 20] m (JQ J D m n (if A.any (for0 σ) = true then .inl σ else .inr 37)) := by
  obtain ⟨hn, hc, hu, hl⟩ := hA
  have hT := h.1
  refine w340_0 xs (d + 1) _ _ m _ ⟨fun w => absurd w (by decide), fun w => absurd w (by decide), fun w => absurd w (by decide), fun w => absurd w (by decide), fun w => absurd w (by decide), fun w => absurd w (by decide), fun w => absurd w (by decide), fun _ => ?_, fun _ _ _ _ _ _ _ w => absurd rfl w⟩
  refine y_ci (c342a xs d hT hn hc hu hl) (by omega) ⟨fun w => ?_, fun w => ?_⟩
  · rw [if_pos (if1 w)]
    exact w340_306 xs (d + 1) _ _ _ m _ (rl0 ⟨rfl, JK.re m, h⟩)
  · rw [if_neg (if0 w)]
    exact w340_306 xs (d + 1) _ _ _ m _ (rl1 (by omega) hT hn h.2.1.f0 ⟨rfl, (JK.re m).fl J 37 n, FE.mk J m (by decide) n⟩)
/-- what has no rule -/
theorem c340_o (xs : List Int32) (d : Nat) {J : JV} {D : Nat → Prop} {σ : RS} {m : yM} (h : RJ J D σ m) {n : Nat} {k : Int32} (hk : k = 11 ∨ k = 17 ∨ k = 21 ∨ k = 22) : yC (xg xs) (d + 1) 340 [.ref 58, .int (nI (J.2.2.2 n)), .int k] m (JQ J D m n (.inl σ)) := by
  rcases hk with rfl | rfl | rfl | rfl
  all_goals exact w340_0 xs d _ _ m _ ⟨fun w => absurd w (by decide), fun w => absurd w (by decide), fun w => absurd w (by decide), fun w => absurd w (by decide), fun w => absurd w (by decide), fun w => absurd w (by decide), fun w => absurd w (by decide), fun w => absurd w (by decide), fun _ _ _ _ _ _ _ _ => ⟨rfl, JK.re m, h⟩⟩
