/-! THE REFERENCE'S RULES: a loop -/
theorem c341f (xs : List Int32) (d : Nat) {J : JV} (hN : JN J) {σ : RS} {m0 m : yM} (hT : JT J m) (hR : RB J σ m0) (g : ∀ a i, 69 < a → a < 84 → m.1 a i = m0.1 a i) (h3 : ¬ m.1 58 3 = 0) {A : List Nat} {n : Nat} (hA : AT J σ A n) {v : Nat} (hv : vOk σ v) : yC (xg xs) (d + 2) 341 [.ref 58, .int (nI (J.2.2.2 n)), .int (nI v)] m (fun r m' => r = none ∧ m' = m) := by
  obtain ⟨hn, hc, hu, hl⟩ := hA
  obtain ⟨vl, w1, w2, w3, w4, w5, w6⟩ := hR.d hv
  have n2 := hR.nV.2
  have hx := hR.v vl
  have xv : x_in (nI v) 4700 = true := x_in_nI (by omega) (by decide)
  have cv : (nI v).toNatClampNeg = v := nI_clamp (by omega)
  have hi := hT.i hn
  have s43 : ∀ u : Int32, (u = 0 ∨ u = 1) → yP (xg xs) (d + 2) 341 43 [(0, .ref 58), (1, .int (nI (J.2.2.2 n))), (2, .int (nI v))] [.int u, .int (29 : Int32), .ref 58] m (fun r m' => r = none ∧ m' = m) := by
    intro u hu'
    refine w341_43 xs (d + 1) _ _ _ _ m _ (rl2 (by omega) hi hu' h3 ⟨xv, ?_⟩)
    rw [cv, g 75 v (by omega) (by omega)]
    refine y_ci (c342b xs d hN hT hn hc hu hl hx) (by omega) ?_
    exact rl2 (by omega) hi (by split <;> simp) h3 ⟨rfl, rfl⟩
  have yes := w341_38 xs (d + 1) _ _ _ m _ (s43 1 (Or.inr rfl))
  have no := w341_42 xs (d + 1) _ _ _ m _ (s43 0 (Or.inl rfl))
  refine w341_0 xs (d + 1) _ _ m _ ⟨xv, fun _ => yes, fun _ => ⟨xv, ?_⟩⟩
  refine ⟨fun _ => no, fun _ => ⟨xv, by decide, by decide, fun _ => no, fun _ => yes⟩⟩
abbrev bdC (σ : RS) (t : Int32) (i : Nat) : Bool := decide (σ.2.2.1 i = 31 ∨ ¬ rgP (σ.2.2.2.1 i) t)
theorem c348L (xs : List Int32) (d : Nat) {J : JV} {σ : RS} {m : yM} (hT : JT J m) {n l v : Nat} (hn : n < J.2.2.1.length) (hv : v < 4096) {Q : Option Value → yM → Prop} : ∀ (K : List Nat) (j : Nat) (l3 : Int32), (kids J.2.2.1 n).drop j = K ++ [l] → (∀ i, i ∈ K → CN J σ i) → (l3 = 0 ∨ l3 = 1) → yC (xg xs) (d + 1) 323 [.ref 58, .int (36 : Int32), .int (if l3 = 1 ∨ K.any (bdC σ (m.1 77 v)) = true then 1 else 0), .int (nI (J.2.2.2 n))] m (fun v1 m1 => v1 = none ∧ Q none m1) → yP (xg xs) (d + 2) 348 76 [(0, .ref 58), (1, .int (nI (J.2.2.2 n))), (2, .int (nI v)), (3, .int l3), (4, .int (lkI J.2.2.2 (kids J.2.2.1 n)[j]?))] [] m Q
  | [], j, l3, e, hK, h3, K0 => by
    have hj : (kids J.2.2.1 n)[j]? = some l := by
      have := congrArg (fun l => l[0]?) e
      simpa using this
    have last : m.1 67 (J.2.2.2 n) = nI (J.2.2.2 l) := by
      have ln : (kids J.2.2.1 n).length = j + 1 := by
        have := congrArg List.length e
        rw [List.length_drop] at this
        have lt := (List.getElem?_eq_some_iff.mp hj).1
        simp at this
        omega
      exact hT.ka hn (by rw [ln]; exact hj)
    have e4 : lkI J.2.2.2 (kids J.2.2.1 n)[j]? = nI (J.2.2.2 l) := by rw [hj]; rfl
    rw [e4]
    refine w348_76 xs (d + 1) _ _ _ _ m _ ⟨hT.x hn, ?_⟩
    rw [hT.c hn, last]
    refine ⟨fun _ => ?_, fun z => absurd rfl z⟩
    rcases h3 with rfl | rfl
    · rw [if_neg (by simp)] at K0; exact K0
    · rw [if_pos (Or.inl rfl)] at K0; exact K0
  | i :: K, j, l3, e, hK, h3, K0 => by
    have hj : (kids J.2.2.1 n)[j]? = some i := by
      have := congrArg (fun l => l[0]?) e
      simpa using this
    have e' : (kids J.2.2.1 n).drop (j + 1) = K ++ [l] := by
      have := congrArg (List.drop 1) e
      rw [List.drop_drop] at this
      simpa using this
    have hl : (kids J.2.2.1 n)[j + 1 + K.length]? = some l := by
      have := congrArg (fun q => q[K.length]?) e'
      simpa using this
    have ln : (kids J.2.2.1 n).length = j + 1 + K.length + 1 := by
      have := congrArg List.length e'
      rw [List.length_drop] at this
      have lt := (List.getElem?_eq_some_iff.mp hl).1
      simp at this
      omega
    have lc := hT.kc hn hl
    have last : m.1 67 (J.2.2.2 n) = nI (J.2.2.2 l) := hT.ka hn (by rw [ln]; exact hl)
    obtain ⟨i1, i2, i3⟩ := hT.kc hn hj
    have cn := hK i List.mem_cons_self
    obtain ⟨v64, v62⟩ := cn.v hT
    have xi := hT.x i1
    have ci := hT.c i1
    have e4 : lkI J.2.2.2 (kids J.2.2.1 n)[j]? = nI (J.2.2.2 i) := by rw [hj]; rfl
    have nl : ¬ nI (J.2.2.2 i) = nI (J.2.2.2 l) := by
      intro z
      have z := (nI_eq (by have := hT.i i1; omega) (by have := hT.i lc.1; omega)).mp z
      have il := hT.2.2.1 i l i1 lc.1 z
      have a1 : m.1 68 (J.2.2.2 i) = lkI J.2.2.2 (kids J.2.2.1 n)[j + 1]? := i3
      rw [il, lc.2.2] at a1
      have : (kids J.2.2.1 n)[j + 1 + K.length + 1]? = none := List.getElem?_eq_none_iff.mpr (by omega)
      rw [this, getD_some (d := 0) (show j + 1 < (kids J.2.2.1 n).length by omega)] at a1
      have b1 := (hT.kc hn (getD_some (d := 0) (show j + 1 < (kids J.2.2.1 n).length by omega))).1
      have a1 : (-1 : Int32) = nI (J.2.2.2 ((kids J.2.2.1 n).getD (j + 1) 0)) := a1
      exact absurd a1.symm (nI_m1 (by have := hT.i b1; omega))
    have cv : (nI v).toNatClampNeg = v := nI_clamp (by omega)
    have xv : x_in (nI v) 4700 = true := x_in_nI (by omega) (by decide)
    rw [e4]
    generalize ht : m.1 77 v = t at K0
    have s156 : ∀ u : Int32, (u = 0 ∨ u = 1) → (u = 1 ↔ (l3 = 1 ∨ bdC σ t i = true)) → yP (xg xs) (d + 2) 348 156 [(0, .ref 58), (1, .int (nI (J.2.2.2 n))), (2, .int (nI v)), (4, .int (nI (J.2.2.2 i)))] [.int u] m Q := by
      intro u hu iff
      refine w348_156 xs (d + 1) _ _ _ _ m _ ⟨xi, ?_⟩
      rw [ci, i3]
      refine c348L xs d hT hn hv K (j + 1) u e' (fun a ha => hK a (List.mem_cons_of_mem _ ha)) hu ?_
      rw [ht]
      have : (u = 1 ∨ K.any (bdC σ t) = true) ↔ (l3 = 1 ∨ (i :: K).any (bdC σ t) = true) := by
        rw [List.any_cons, Bool.or_eq_true, iff]
        constructor
        · rintro ((q | q) | q)
          · exact Or.inl q
          · exact Or.inr (Or.inl q)
          · exact Or.inr (Or.inr q)
        · rintro (q | q | q)
          · exact Or.inl (Or.inl q)
          · exact Or.inl (Or.inr q)
          · exact Or.inr q
      by_cases w : l3 = 1 ∨ (i :: K).any (bdC σ t) = true
      · rw [if_pos w] at K0; rw [if_pos (this.mpr w)]; exact K0
      · rw [if_neg w] at K0; rw [if_neg (fun y => w (this.mp y))]; exact K0
    have yes : (l3 = 1 ∨ bdC σ t i = true) → yP (xg xs) (d + 2) 348 151 [(0, .ref 58), (1, .int (nI (J.2.2.2 n))), (2, .int (nI v)), (4, .int (nI (J.2.2.2 i)))] [] m Q := fun y => w348_151 xs (d + 1) _ _ _ m _ (s156 1 (Or.inr rfl) ⟨fun _ => y, fun _ => rfl⟩)
    have no : ¬ (l3 = 1 ∨ bdC σ t i = true) → yP (xg xs) (d + 2) 348 155 [(0, .ref 58), (1, .int (nI (J.2.2.2 n))), (2, .int (nI v)), (4, .int (nI (J.2.2.2 i)))] [] m Q := fun y => w348_155 xs (d + 1) _ _ _ m _ (s156 0 (Or.inl rfl) ⟨fun z => absurd z (by decide), fun z => absurd z y⟩)
    have s118 : ∀ u : Int32, (u = 0 ↔ (¬ σ.2.2.2.1 i < -32768 ∧ ¬ 32767 < σ.2.2.2.1 i)) → yP (xg xs) (d + 2) 348 118 [(0, .ref 58), (1, .int (nI (J.2.2.2 n))), (2, .int (nI v)), (3, .int l3), (4, .int (nI (J.2.2.2 i)))] [.int u] m Q := by
      intro u hu
      refine w348_118 xs (d + 1) _ _ _ _ _ m _ ⟨fun z => yes (Or.inl (h3.resolve_left z)), fun z => ⟨xi, ?_⟩⟩
      have l1 : ¬ l3 = 1 := by rw [z]; decide
      rw [ci, v62, cv, ht]
      refine ⟨fun w => yes (Or.inr (decide_eq_true (Or.inl w))), fun w => ⟨xv, fun w2 => no (fun y => y.elim l1 (fun y => (decide_eq_true_iff.mp y).elim w (fun y => y (Or.inl w2)))), fun w2 => ⟨fun w3 => no (fun y => y.elim l1 (fun y => (decide_eq_true_iff.mp y).elim w (fun y => y (Or.inr (hu.mp w3))))), fun w3 => yes (Or.inr (decide_eq_true (Or.inr (fun y => y.elim (fun y => y w2) (fun y => w3 (hu.mpr y))))))⟩⟩⟩
    have s113 := fun (q : ¬ (¬ σ.2.2.2.1 i < -32768 ∧ ¬ 32767 < σ.2.2.2.1 i)) => w348_113 xs (d + 1) _ _ _ _ m Q (s118 1 ⟨fun z => absurd z (by decide), fun z => absurd z q⟩)
    refine w348_76 xs (d + 1) _ _ _ _ m _ ⟨hT.x hn, ?_⟩
    rw [hT.c hn, last, ci, v64]
    refine ⟨fun z => absurd z nl, fun _ => ⟨xi, fun z => s113 (fun y => y.1 z), fun z => ⟨xi, fun z2 => s118 0 ⟨fun _ => ⟨z, Int32.not_lt.mpr z2⟩, fun _ => rfl⟩, fun z2 => s113 (fun y => y.2 (Int32.not_le.mp z2))⟩⟩⟩
theorem FR.k {J : JV} {σ : RS} {n : Nat} (h : FR J σ n) : ∃ K l, kids J.2.2.1 n = K ++ [l] ∧ (∀ i, i ∈ K → CN J σ i) ∧ ∀ t, frK σ t 3 (n + 1) = K.any (bdC σ t) := by
  obtain ⟨h1, h2, h3⟩ := h
  have n11 : ∀ i, CN J σ i → ¬ σ.2.2.1 i = 11 := by
    intro i hi
    rw [hi.2.2.1]
    rcases hi.2.1 with z | z <;> rw [z] <;> decide
  have st : ∀ t k i, ¬ σ.2.2.1 i = 11 → frK σ t (k + 1) i = (bdC σ t i || frK σ t k (i + 1)) := by
    intro t k i hi
    show (if σ.2.2.1 i = 11 then false else if σ.2.2.1 i = 31 ∨ ¬ rgP (σ.2.2.2.1 i) t then true else frK σ t k (i + 1)) = _
    rw [if_neg hi]
    by_cases q : σ.2.2.1 i = 31 ∨ ¬ rgP (σ.2.2.2.1 i) t
    · rw [if_pos q, show bdC σ t i = true from decide_eq_true q, Bool.true_or]
    · rw [if_neg q, show bdC σ t i = false from decide_eq_false q, Bool.false_or]
  rcases h3 with ⟨k, q, l⟩ | ⟨k, q, l⟩
  · refine ⟨[n + 1, n + 2], n + 3, k, fun i hi => ?_, fun t => ?_⟩
    · rcases List.mem_cons.mp hi with rfl | hi
      · exact h1
      · rw [List.mem_singleton.mp hi]; exact h2
    · have e3 : frK σ t 1 (n + 3) = false := by
        show (if σ.2.2.1 (n + 3) = 11 then false else _) = _
        rw [if_pos q]
      rw [st t 2 (n + 1) (n11 _ h1), st t 1 (n + 2) (n11 _ h2), e3]
      rfl
  · refine ⟨[n + 1, n + 2, n + 3], n + 4, k, fun i hi => ?_, fun t => ?_⟩
    · rcases List.mem_cons.mp hi with rfl | hi
      · exact h1
      · rcases List.mem_cons.mp hi with rfl | hi
        · exact h2
        · rw [List.mem_singleton.mp hi]; exact q
    · rw [st t 2 (n + 1) (n11 _ h1), st t 1 (n + 2) (n11 _ h2), st t 0 (n + 3) (n11 _ q)]
      rfl
theorem CN.s {J : JV} {σ : RS} {i n : Nat} (h : CN J σ i) (hi : ¬ i = n) (x : Int32) : CN J (setV σ n x) i := ⟨h.1, h.2.1, h.2.2.1, h.2.2.2.1, (upI_o _ _ hi).trans h.2.2.2.2⟩
theorem FR.s {J : JV} {σ : RS} {n : Nat} (h : FR J σ n) (x : Int32) : FR J (setV σ n x) n := by
  obtain ⟨h1, h2, h3⟩ := h
  refine ⟨h1.s (by omega) x, h2.s (by omega) x, ?_⟩
  rcases h3 with ⟨k, q, l⟩ | ⟨k, q, l⟩
  · exact Or.inl ⟨k, q, l⟩
  · exact Or.inr ⟨k, q.s (by omega) x, l⟩
def fRR (R X : RS ⊕ Int32) : RS ⊕ Int32 := match R with
  | .inl _ => X
  | .inr c => .inr c
theorem c340_19 (xs : List Int32) (d : Nat) {J : JV} (hN : JN J) {D : Nat → Prop} {σ : RS} {m : yM} (h : RJ J D σ m) (h0 : 0 < σ.1.length) (hd : dsB σ) (hD : allD σ) {A : List Nat} {n : Nat} (hA : AT J σ A n) (hF : FR J σ n) (hvt : ¬ vtF J.2.2.1 n = 0) (hvn : σ.2.2.2.1 n = vF J.2.2.1 n) (kn : kK J.2.2.1 n = 19) : yC (xg xs) (d + 5) 340 [.ref 58, .int (nI (J.2.2.2 n)), .int 19] m (JQ J (fun i => D i ∨ i = n) m n (lkFor σ A n)) := by
  have hA0 := hA
  obtain ⟨hn, hc, huA, hl⟩ := hA
  have hT := h.1
  have hR := h.2.1
  have n2 := hR.nV.2
  have hi := hT.i hn
  refine w340_0 xs (d + 4) _ _ m _ ⟨fun w => absurd w (by decide), fun w => absurd w (by decide), fun w => absurd w (by decide), fun w => absurd w (by decide), fun w => absurd w (by decide), fun w => absurd w (by decide), fun _ => ?_, fun w => absurd w (by decide), fun _ _ _ _ _ _ w => absurd rfl w⟩
  refine y_jq (d := d + 4) (w348_0 xs (d + 3) _ m _ (y_ci (c344 xs d hN hT hR h0 hd hD hn hvt (s := 0) (form := 8) (Or.inl ⟨rfl, rfl⟩)) (by omega) ?_)) (Nat.le_refl _)
  unfold lkFor
  rw [hvn]
  generalize vF J.2.2.1 n = x at hvn
  have bad : ∀ c : Int32, 0 < c → JQ J (fun i => D i ∨ i = n) m n (.inr c) none (y_si (flM2 J m c n) 85 (J.2.2.2 n) (fVar σ x)) ∧ ¬ (y_si (flM2 J m c n) 85 (J.2.2.2 n) (fVar σ x)).1 58 3 ≤ 0 := by
    intro c hc
    have fe := FE.mk J m hc n
    exact ⟨⟨rfl, ((JK.re m).fl J c n).si (by omega), by rw [y_si_at, if_neg (by omega)]; exact fe.1, fe.2.1, by rw [y_si_at, if_neg (by omega)]; exact fe.2.2⟩, by rw [y_si_at, if_neg (by omega)]; exact fe.nle⟩
  unfold nmF
  rcases fVar_c σ x with q1 | ⟨v, v1, v2, v3⟩
  · rw [if_pos q1, if_pos q1, if_neg (by decide)]
    obtain ⟨b1, b2⟩ := bad 20 (by decide)
    exact ⟨fun z => absurd z b2, fun _ => b1⟩
  · have q1 : ¬ fVar σ x = -1 := by rw [v2]; exact nI_m1 (by omega)
    rw [if_neg q1, if_neg q1]
    by_cases q2 : frm σ (fVar σ x).toNatClampNeg = 8
    · have nn : ¬ ¬ frm σ (fVar σ x).toNatClampNeg = 8 := fun z => z q2
      rw [if_pos q2, if_pos rfl, if_neg nn]
      have cv : (nI v).toNatClampNeg = v := nI_clamp (by omega)
      have vb : v < σ.2.1.length := v1
      rw [v2, cv] at q2 ⊢
      have vo := hD v v1
      have xv : x_in (nI v) 4700 = true := x_in_nI (by omega) (by decide)
      have hf : (curB σ).2.2.2.2 ≤ v := fVar_f (by omega) (by have := hR.cf h0; omega) (by omega) v2
      have jk : JK m (y_si m 85 (J.2.2.2 n) (nI v)) := (JK.re m).si (by omega)
      have hR1 : RB J σ (y_si m 85 (J.2.2.2 n) (nI v)) := hR.fr (fun a i h1 h2 => by rw [y_si_at, if_neg (by omega)]) (fun i hi => by rw [y_si_at, if_neg (by omega)])
      have good : RJ J (fun i => D i ∨ i = n) (setV σ n (nI v)) (y_si m 85 (J.2.2.2 n) (nI v)) := RJ.up h hn jk (fun a i h1 h2 => by rw [y_si_at, if_neg (by omega)]) (fun a i h1 h2 h3 => by rw [y_si_at, if_neg (fun z => h3 z.2)]) (fun i hi => by rw [y_si_at, if_neg (by omega)]) rfl rfl (fun i hi => ⟨rfl, upI_o _ _ hi, rfl⟩) (by omega) (fun z => by omega) ⟨fun z => by omega, fun _ => by rw [y_si_same]; exact (upI_n _ _ _).symm, fun z => by omega, fun z => by omega⟩
      generalize y_si m 85 (J.2.2.2 n) (nI v) = m1 at jk hR1 good
      have hT1 := hT.k jk
      have f1 := hR1.f0
      obtain ⟨-, hvd⟩ := hR1.d vo
      have e77 := tyV_r hvd (Or.inl q2)
      have hF1 := hF.s (nI v)
      obtain ⟨K, l, kk, kc, kf⟩ := hF1.k
      refine ⟨fun _ => ⟨xv, ?_⟩, fun z => absurd (by rw [f1]; decide) z⟩
      rw [e77]
      -- behind the first rules
      have tail : ∀ (m2 : yM) (R : RS ⊕ Int32), JK m m2 → m2.1 77 v = tyV σ v → ((R = .inl (setV σ n (nI v)) ∧ m2 = m1) ∨ ∃ c, R = .inr c ∧ FE J c n m2) → yC (xg xs) (d + 3) 349 [.ref 58, .int (nI (J.2.2.2 n))] m2 (fun v3 m3 => ∃ u3, v3 = some (Value.int u3) ∧ ((u3 = 0 → yP (xg xs) (d + 4) 348 62 [(0, .ref 58), (1, .int (nI (J.2.2.2 n))), (2, .int (nI v))] [] m3 (JQ J (fun i => D i ∨ i = n) m n (fRR R (lkForP (setV σ n (nI v)) n (tyV σ v))))) ∧ (¬ u3 = 0 → (yC (xg xs) (d + 3) 351 [.ref 58, .int (nI (J.2.2.2 n))] m3 (fun v4 m4 => ∃ u4, v4 = some (Value.long u4) ∧ (((lg_cmp u4 (1000000 : Int64)) ≤ 0 → yP (xg xs) (d + 4) 348 67 [(0, .ref 58), (1, .int (nI (J.2.2.2 n))), (2, .int (nI v))] [.int (0 : Int32)] m4 (JQ J (fun i => D i ∨ i = n) m n (fRR R (lkForP (setV σ n (nI v)) n (tyV σ v))))) ∧ (¬ (lg_cmp u4 (1000000 : Int64)) ≤ 0 → yP (xg xs) (d + 4) 348 62 [(0, .ref 58), (1, .int (nI (J.2.2.2 n))), (2, .int (nI v))] [] m4 (JQ J (fun i => D i ∨ i = n) m n (fRR R (lkForP (setV σ n (nI v)) n (tyV σ v))))))))))) := by
        intro m2 R jk2 t2 hRR
        have hT2 := hT.k jk2
        have s67 : ∀ u : Int32, (u = 0 ∨ u = 1) → (u = 1 ↔ (stp (setV σ n (nI v)) n = 0 ∨ ¬ lg_cmp (tms (setV σ n (nI v)) n) 1000000 ≤ 0)) → yP (xg xs) (d + 4) 348 67 [(0, .ref 58), (1, .int (nI (J.2.2.2 n))), (2, .int (nI v))] [.int u] m2 (JQ J (fun i => D i ∨ i = n) m n (fRR R (lkForP (setV σ n (nI v)) n (tyV σ v)))) := by
          intro u hu iff
          refine w348_67 xs (d + 3) _ _ _ m2 _ ⟨hT.x hn, ?_⟩
          rw [hT.c hn, (hT2.2.1 n hn).2.2.2.2.2.1]
          refine c348L xs (d + 2) hT2 hn (by omega) K 0 u (by rw [List.drop_zero]; exact kk) kc hu ?_
          rw [t2]
          rcases hRR with ⟨rfl, rfl⟩ | ⟨c, rfl, fe⟩
          · unfold fRR lkForP
            dsimp only
            rw [kf]
            have iff2 : (u = 1 ∨ K.any (bdC (setV σ n (nI v)) (tyV σ v)) = true) ↔ (K.any (bdC (setV σ n (nI v)) (tyV σ v)) = true ∨ stp (setV σ n (nI v)) n = 0 ∨ ¬ lg_cmp (tms (setV σ n (nI v)) n) 1000000 ≤ 0) := by rw [iff]; exact ⟨fun z => z.elim Or.inr Or.inl, fun z => z.elim Or.inr Or.inl⟩
            by_cases q : u = 1 ∨ K.any (bdC (setV σ n (nI v)) (tyV σ v)) = true
            · rw [if_pos q, if_pos (iff2.mp q)]
              exact rl1 (by omega) hT1 hn f1 ⟨rfl, jk.fl J 36 n, FE.mk J m2 (by decide) n⟩
            · rw [if_neg q, if_neg (fun z => q (iff2.mpr z))]
              exact rl0 ⟨rfl, jk, good⟩
          · exact rl2 (by omega) hi (by split <;> simp) fe.ne ⟨rfl, jk2, fe⟩
        have s62 := fun (q : stp (setV σ n (nI v)) n = 0 ∨ ¬ lg_cmp (tms (setV σ n (nI v)) n) 1000000 ≤ 0) => w348_62 xs (d + 3) _ _ m2 _ (s67 1 (Or.inr rfl) ⟨fun _ => q, fun _ => rfl⟩)
        refine y_ci (c349 xs (d + 1) hT2 hn hF1) (by omega) ⟨fun z => s62 (Or.inl z), fun z => ?_⟩
        refine y_cl (c351 xs d hT2 hn hF1) (by omega) ⟨fun w => s67 0 (Or.inl rfl) ⟨fun y => absurd y (by decide), fun y => y.elim (fun y => absurd y z) (fun y => absurd w y)⟩, fun w => s62 (Or.inr w)⟩
      -- the type
      have s32 : ∀ (u : Int32) (b : Bool), u = (if b = true then 1 else 0) → b = decide (tyV σ v = 0) → yP (xg xs) (d + 4) 348 32 [(0, .ref 58), (1, .int (nI (J.2.2.2 n))), (2, .int (nI v))] [.int u, .int (22 : Int32), .ref 58] m1 (JQ J (fun i => D i ∨ i = n) m n (if tyV σ v = 0 then .inr 22 else if ¬ fAs σ A v = 0 then .inr (fAs σ A v) else lkForP (setV σ n (nI v)) n (tyV σ v))) := by
        intro u b hu hb
        refine w348_32 xs (d + 3) _ _ _ _ m1 _ (rlb (by omega) (by decide) hT1 hn f1 false b hu ?_)
        rw [Bool.false_or]
        by_cases t0 : tyV σ v = 0
        · rw [if_pos t0, hb, decide_eq_true t0, flb_t]
          have fe := FE.mk J m1 (show (0 : Int32) < 22 by decide) n
          have jk2 := jk.fl J 22 n
          have gg : ∀ a i, 69 < a → a < 84 → (flM2 J m1 22 n).1 a i = m1.1 a i := fun a i z1 z2 => by unfold flM2; rw [y_si_at, if_neg (by omega), y_si_at, if_neg (by omega)]
          refine y_cv (c341f xs (d + 1) hN (hT.k jk2) hR1 gg fe.ne hA0 vo) (by omega) ?_
          exact tail _ (.inr 22) jk2 (by rw [gg 77 v (by omega) (by omega)]; exact e77) (Or.inr ⟨22, rfl, fe⟩)
        · rw [if_neg t0, hb, decide_eq_false t0, flb_f]
          refine y_cv (c341 xs (d + 1) hN hT1 hR1 hn hc huA hl vo hf) (by omega) ?_
          by_cases a0 : fAs σ A v = 0
          · rw [if_pos a0, if_neg (fun z => z a0)]
            exact tail m1 (.inl (setV σ n (nI v))) jk e77 (Or.inl ⟨rfl, rfl⟩)
          · rw [if_neg a0, if_pos a0]
            have fe := FE.mk J m1 (fAs_p a0) n
            have jk2 := jk.fl J (fAs σ A v) n
            have gg : (flM2 J m1 (fAs σ A v) n).1 77 v = m1.1 77 v := by unfold flM2; rw [y_si_at, if_neg (by omega), y_si_at, if_neg (by omega)]
            exact tail _ (.inr (fAs σ A v)) jk2 (by rw [gg]; exact e77) (Or.inr ⟨_, rfl, fe⟩)
      exact ⟨fun z => s32 0 false rfl (decide_eq_false z).symm, fun z => s32 1 true rfl (decide_eq_true z).symm⟩
    · rw [if_neg q2, if_neg (show ¬ (21 : Int32) = 0 by decide), if_pos q2]
      obtain ⟨b1, b2⟩ := bad 21 (by decide)
      exact ⟨fun z => absurd z b2, fun _ => b1⟩
