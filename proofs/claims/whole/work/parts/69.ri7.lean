/-! THE REFERENCE'S READER: a node under way -/
def FZ (z : Nat) (m m' : yM) : Prop := ∀ a x, 62 ≤ a → a ≤ 69 → x < z → m'.1 a x = m.1 a x
theorem FZ.tr {z z' : Nat} {m m' m2 : yM} (h : FZ z m m') (h' : FZ z' m' m2) (hz : z ≤ z') : FZ z m m2 := fun a x h1 h2 h3 => by rw [h' a x h1 h2 (by omega), h a x h1 h2 h3]
theorem FZ.fm {z : Nat} {m m' m2 : yM} (h : FZ z m m') (h' : FM m' m2) : FZ z m m2 := fun a x h1 h2 h3 => by rw [h' a x h1, h a x h1 h2 h3]
theorem FZ.re (z : Nat) (m : yM) : FZ z m m := fun _ _ _ _ _ => rfl
theorem FM.ag {m m' : yM} (h : FM m m') (lo hi x : Nat) : AG m m' lo hi x := fun a y h1 _ _ _ _ => h a y h1
theorem FZ.ag {m m' : yM} {z lo hi : Nat} (h : FZ z m m') (hz : hi ≤ z) (x : Nat) : AG m m' lo hi x := fun a y h1 h2 _ h4 _ => h a y h1 h2 (by omega)
/-- a state behind a pure answer: the tokens stand there, so many nodes, and T of the nodes -/
def GS (E : EV) (c : Nat) (Rs : List (List Int32)) (T : List (List Int32) → yM → List ND → Prop) (X : PX) (m : yM) : Prop := match X with
  | .inr e => RRe E e.1 e.2 m
  | .inl (t, o, G) => ∃ Rs', Rs <+: Rs' ∧ RRo E t o (min (c + G.length) 19999) Rs' m ∧ (c + G.length ≤ 19999 → ∀ R2 m2, Rs' <+: R2 → FM m m2 → T R2 m2 G)
/-- a node under way -/
def PT (E : EV) (z a : Nat) (q : NQ) (m0 : yM) (R : List (List Int32)) (m : yM) (G : List ND) : Prop := FZ z m0 m ∧ m.1 65 a = -1 ∧ m.1 68 a = -1 ∧ ∃ Cs, flt Cs = G ∧ TN E R m a q Cs z (z + 1 + G.length)
/-- a tree done -/
def QT (E : EV) (z : Nat) (m0 : yM) (id : Nat) (R : List (List Int32)) (m : yM) (G : List ND) : Prop := FZ z m0 m ∧ m.1 65 id = -1 ∧ m.1 68 id = -1 ∧ RT E R m G.length (id, z, z + G.length, G)
/-- a tree done and a new node behind it -/
def WT (E : EV) (z : Nat) (q : NQ) (m0 : yM) (id : Nat) (L : List ND) (R : List (List Int32)) (m : yM) (_ : List ND) : Prop := QT E z m0 id R m L ∧ NDV E R m (z + L.length) q ∧ m.1 65 (z + L.length) = -1 ∧ m.1 66 (z + L.length) = -1 ∧ m.1 67 (z + L.length) = -1 ∧ m.1 68 (z + L.length) = -1 ∧ m.1 69 (z + L.length) = 0
abbrev PS (E : EV) (z a : Nat) (q : NQ) (Rs : List (List Int32)) (m0 : yM) (X : PX) (m : yM) : Prop := GS E (z + 1) Rs (PT E z a q m0) X m
abbrev RQ (E : EV) (z : Nat) (Rs : List (List Int32)) (m0 : yM) (X : PX) (id : Nat) (m : yM) : Prop := GS E z Rs (QT E z m0 id) X m
abbrev PW (E : EV) (z : Nat) (q : NQ) (Rs : List (List Int32)) (m0 : yM) (id : Nat) (L : List ND) (X : PX) (m : yM) : Prop := GS E (z + 1 + L.length) Rs (WT E z q m0 id L) X m
theorem PT.st {E : EV} {z a : Nat} {q : NQ} {m0 m m2 : yM} {R R2 : List (List Int32)} {G : List ND} (h : PT E z a q m0 R m G) (hp : R <+: R2) (hf : FM m m2) : PT E z a q m0 R2 m2 G := by
  obtain ⟨a1, a2, a3, Cs, a4, a5⟩ := h
  exact ⟨a1.fm hf, by rw [hf _ _ (by omega)]; exact a2, by rw [hf _ _ (by omega)]; exact a3, Cs, a4, a5.fr hp (hf.ag _ _ _)⟩
theorem QT.st {E : EV} {z id : Nat} {m0 m m2 : yM} {R R2 : List (List Int32)} {G : List ND} (h : QT E z m0 id R m G) (hp : R <+: R2) (hf : FM m m2) : QT E z m0 id R2 m2 G := by
  obtain ⟨a1, a2, a3, a5⟩ := h
  exact ⟨a1.fm hf, by rw [hf _ _ (by omega)]; exact a2, by rw [hf _ _ (by omega)]; exact a3, RT.fr hp _ _ a5 (hf.ag _ _ _)⟩
theorem WT.st {E : EV} {z id : Nat} {q : NQ} {m0 m m2 : yM} {R R2 : List (List Int32)} {L G : List ND} (h : WT E z q m0 id L R m G) (hp : R <+: R2) (hf : FM m m2) : WT E z q m0 id L R2 m2 G := by
  obtain ⟨a0, a1, a2, a3, a4, a5, a6⟩ := h
  refine ⟨a0.st hp hf, a1.fr hp (fun k hk => hf _ _ (by omega)), ?_, ?_, ?_, ?_, ?_⟩ <;> (rw [hf _ _ (by omega)]; assumption)
theorem FM.re (m : yM) : FM m m := fun _ _ _ => rfl
theorem FM.tr {m m1 m2 : yM} (h : FM m m1) (h2 : FM m1 m2) : FM m m2 := fun a i ha => by rw [h2 a i ha, h a i ha]
/-- what a method that reads a tree answers and leaves -/
def RM (E : EV) (z : Nat) (Rs : List (List Int32)) (m0 : yM) (X : PX) (r : Option Value) (m : yM) : Prop := ∃ id, id < 20000 ∧ r = some (.int (nI id)) ∧ RQ E z Rs m0 X id m
theorem NR.eq {m m' : yM} {Rs : List (List Int32)} (h : NR m Rs) (g : ∀ k i, k < 62 → ¬ (k = 58 ∧ i = 21) → m'.1 k i = m.1 k i) : NR m' Rs := by
  refine ⟨by rw [g 58 12 (by omega) (by omega)]; exact h.1, fun i hi => by rw [g 61 i (by omega) (by omega)]; exact h.2.1 i hi, fun i hi => ?_, h.2.2.2⟩
  have e : nrAt m' (offs Rs i) (Rs.getD i []).length = nrAt m (offs Rs i) (Rs.getD i []).length := by
    unfold nrAt
    congr 1
    funext j
    exact g 60 _ (by omega) (by omega)
  rw [e]
  exact h.2.2.1 i hi
theorem NK.eq {m0 m m' : yM} (h : NK m0 m) (g : ∀ k i, k < 62 → ¬ (k = 58 ∧ i = 21) → m'.1 k i = m.1 k i) (g2 : ∀ k i, 69 < k → m'.1 k i = m.1 k i) (g3 : m'.2 = m.2) : NK m0 m' := by
  refine ⟨fun a i h1 h2 => ?_, fun i hi => ?_, g3.trans h.2.2⟩
  · rcases h2 with u | u
    · rw [g a i (by omega) (by omega)]; exact h.1 a i h1 (Or.inl u)
    · rw [g2 a i u]; exact h.1 a i h1 (Or.inr u)
  · rw [g 58 i (by omega) (by omega)]; exact h.2.1 i hi
theorem RRo.eq {E : EV} {t o z z' : Nat} {Rs : List (List Int32)} {m m' : yM} (h : RRo E t o z Rs m) (g : ∀ k i, k < 62 → ¬ (k = 58 ∧ i = 21) → m'.1 k i = m.1 k i) (g2 : ∀ k i, 69 < k → m'.1 k i = m.1 k i) (g3 : m'.2 = m.2) (hz : m'.1 58 21 = nI z') (h9 : z' ≤ 19999) (hG : GI m') : RRo E t o z' Rs m' := by
  obtain ⟨h1, h2, h3, h4, h5, h6, h7, h8, h9', h10, h11, h12, h13, h14, h15, h16⟩ := h
  refine ⟨h1.eq g g2 g3, ⟨by rw [g 58 2 (by omega) (by omega)]; exact h2.1, h2.2.1, fun i hi => by rw [g 59 i (by omega) (by omega)]; exact h2.2.2 i hi⟩, h3.eq g, h4, h5, h6, ?_, ?_, ?_, ?_, ?_, ?_, h13, hz, h9, hG⟩
  · rw [g 58 3 (by omega) (by omega)]; exact h7
  · rw [g 58 5 (by omega) (by omega)]; exact h8
  · rw [g 58 8 (by omega) (by omega)]; exact h9'
  · rw [g 58 9 (by omega) (by omega)]; exact h10
  · rw [g 58 6 (by omega) (by omega), g 58 7 (by omega) (by omega)]; exact h11
  · rw [g 58 22 (by omega) (by omega)]; exact h12
theorem RRe.eq {E : EV} {c p : Int32} {m m' : yM} (h : RRe E c p m) (g : ∀ k i, k < 62 → ¬ (k = 58 ∧ i = 21) → m'.1 k i = m.1 k i) (g2 : ∀ k i, 69 < k → m'.1 k i = m.1 k i) (g3 : m'.2 = m.2) (hz : ∃ z : Nat, m'.1 58 21 = nI z ∧ z ≤ 19999) (hG : GI m') : RRe E c p m' := by
  obtain ⟨h1, h2, h3, h4, h5, h6, h7⟩ := h
  refine ⟨h1.eq g g2 g3, ?_, h3, ?_, hz, hG, ?_⟩
  · rw [g 58 3 (by omega) (by omega)]; exact h2
  · rw [g 58 4 (by omega) (by omega)]; exact h4
  · rw [g 61 0 (by omega) (by omega)]; exact h7
theorem RRo.gi {E : EV} {t o z : Nat} {Rs : List (List Int32)} {m : yM} (h : RRo E t o z Rs m) : GI m := h.2.2.2.2.2.2.2.2.2.2.2.2.2.2.2
theorem RRo.z9 {E : EV} {t o z : Nat} {Rs : List (List Int32)} {m : yM} (h : RRo E t o z Rs m) : m.1 58 21 = nI z ∧ z ≤ 19999 := ⟨h.2.2.2.2.2.2.2.2.2.2.2.2.2.1, h.2.2.2.2.2.2.2.2.2.2.2.2.2.2.1⟩
theorem RRo.ad {E : EV} {t o z : Nat} {Rs : List (List Int32)} {m : yM} (h : RRo E t o z Rs m) {a c : Nat} (hc : c < 20000) : RRo E t o z Rs (adM m a c) :=
  h.eq (fun _ _ hk _ => adM_k (by omega)) (fun _ _ hk => adM_k (by omega)) (adM_2 _ _ _) (by rw [adM_k (by omega)]; exact h.z9.1) h.z9.2 (adM_gi h.gi hc)
theorem RRe.ad {E : EV} {c p : Int32} {m : yM} (h : RRe E c p m) {a b : Nat} (hc : b < 20000) : RRe E c p (adM m a b) := by
  refine h.eq (fun _ _ hk _ => adM_k (by omega)) (fun _ _ hk => adM_k (by omega)) (adM_2 _ _ _) ?_ (adM_gi h.2.2.2.2.2.1 hc)
  obtain ⟨z, z1, z2⟩ := h.2.2.2.2.1
  exact ⟨z, by rw [adM_k (by omega)]; exact z1, z2⟩
/-- a new node -/
def ndM (m : yM) (z : Nat) (k p v : Int32) : yM := y_si (y_si (y_si (y_si (y_si (y_si (y_si (y_si (y_si m 62 z k) 63 z p) 64 z v) 65 z (-1)) 66 z (-1)) 67 z (-1)) 68 z (-1)) 69 z 0) 58 21 (nI (min (z + 1) 19999))
theorem ndM_o {m : yM} {z : Nat} {k p v : Int32} {a x : Nat} (h : ¬ (62 ≤ a ∧ a ≤ 69 ∧ x = z)) (h2 : ¬ (a = 58 ∧ x = 21)) : (ndM m z k p v).1 a x = m.1 a x := by
  unfold ndM
  repeat rw [y_si_at, if_neg (by omega)]
theorem ndM_21 (m : yM) (z : Nat) (k p v : Int32) : (ndM m z k p v).1 58 21 = nI (min (z + 1) 19999) := by
  unfold ndM
  rw [y_si_at, if_pos ⟨rfl, rfl⟩]
theorem ndM_f (m : yM) (z : Nat) (k p v : Int32) : (ndM m z k p v).1 62 z = k ∧ (ndM m z k p v).1 63 z = p ∧ (ndM m z k p v).1 64 z = v ∧ (ndM m z k p v).1 65 z = -1 ∧ (ndM m z k p v).1 66 z = -1 ∧ (ndM m z k p v).1 67 z = -1 ∧ (ndM m z k p v).1 68 z = -1 ∧ (ndM m z k p v).1 69 z = 0 := by
  unfold ndM
  simp [y_si_at]
theorem ndM_gi {m : yM} {z : Nat} {k p v : Int32} (h : GI m) : GI (ndM m z k p v) := by
  intro x hx
  by_cases e : x = z
  · subst e
    left
    exact (ndM_f m x k p v).2.2.2.2.1
  · rw [ndM_o (by omega) (by omega), ndM_o (by omega) (by omega)]
    exact h x hx
theorem c271n (xs : List Int32) (d : Nat) {m : yM} {z : Nat} (hz : m.1 58 21 = nI z) (h9 : z ≤ 19999) (k p v : Int32) : yC (xg xs) (d + 1) 271 [.ref 58, .int k, .int p, .int v] m (fun r m' => r = some (.int (nI z)) ∧ m' = ndM m z k p v) := by
  have e : x_in (m.1 58 21) 20000 = true := by rw [hz]; exact x_in_nI (by omega) (by decide)
  have ec : (m.1 58 21).toNatClampNeg = z := by rw [hz]; exact nI_clamp (by omega)
  refine w271_0 xs d _ _ _ m _ ⟨e, e, e, e, e, e, e, e, fun u => ⟨by rw [hz], ?_⟩, fun u => ⟨by rw [hz], ?_⟩⟩
  · rw [ec, hz]
    rw [hz] at u
    have := (nI_leI (a := 19999) (by omega) (by omega)).mp u
    unfold ndM
    rw [show min (z + 1) 19999 = z from by omega]
  · rw [ec, hz, nI_1]
    rw [hz] at u
    have : z < 19999 := by
      rcases Nat.lt_or_ge z 19999 with w | w
      · exact w
      · exact absurd (nI_le (a := 19999) w (by omega)) u
    unfold ndM
    rw [show min (z + 1) 19999 = z + 1 from by omega]
theorem RRo.nd {E : EV} {t o z : Nat} {Rs : List (List Int32)} {m : yM} (h : RRo E t o z Rs m) (k p v : Int32) : RRo E t o (min (z + 1) 19999) Rs (ndM m z k p v) :=
  h.eq (fun _ _ hk h2 => ndM_o (by omega) h2) (fun _ _ hk => ndM_o (by omega) (by omega)) rfl (ndM_21 _ _ _ _ _) (by omega) (ndM_gi h.gi)
theorem RRe.nd {E : EV} {c p : Int32} {m : yM} (h : RRe E c p m) (z : Nat) (k r v : Int32) : RRe E c p (ndM m z k r v) :=
  h.eq (fun _ _ hk h2 => ndM_o (by omega) h2) (fun _ _ hk => ndM_o (by omega) (by omega)) rfl ⟨_, ndM_21 _ _ _ _ _, by omega⟩ (ndM_gi h.2.2.2.2.2.1)
/-- a node's value -/
abbrev nvO (E : EV) (Rs : List (List Int32)) (q : NQ) (v : Int32) : Prop := (q.2.2.2 = 0 → v = q.2.2.1) ∧ (¬ q.2.2.2 = 0 → nmV E Rs (q.2.2.2 - 1) v)
theorem PS.new {E : EV} {t o z : Nat} {Rs : List (List Int32)} {m : yM} (h : RRo E t o (min z 19999) Rs m) (q : NQ) (v : Int32) (hv : nvO E Rs q v) : PS E z z q Rs m (.inl (t, o, [])) (ndM m (min z 19999) q.1 q.2.1 v) := by
  refine ⟨Rs, List.prefix_refl _, ?_, fun hz => ?_⟩
  · have := h.nd q.1 q.2.1 v
    rw [show min (min z 19999 + 1) 19999 = min (z + 1 + ([] : List ND).length) 19999 from by simp only [List.length_nil]; omega] at this
    exact this
  · intro R2 m2 hp2 hf2
    refine PT.st ?_ hp2 hf2
    simp only [List.length_nil] at hz
    rw [show min z 19999 = z from by omega]
    obtain ⟨f1, f2, f3, f4, f5, f6, f7, f8⟩ := ndM_f m z q.1 q.2.1 v
    refine ⟨fun a x h1 h2 h3 => ndM_o (by omega) (by omega), f4, f7, [], rfl, by omega, by simp only [List.length_nil]; omega, ⟨f1, f2, fun u => by rw [f3]; exact hv.1 u, fun u => by rw [f3]; exact hv.2 u⟩, ⟨f5, f6, f8, fun j c hc => by simp at hc⟩, ⟨fun j c hc => by simp at hc, fun i j c e _ hc => by simp at hc⟩, fun j c hc => by simp at hc⟩
theorem PS.mk {xs : List Int32} {D : Nat} (hD : 1 ≤ D) {E : EV} {t o z : Nat} {Rs : List (List Int32)} {m : yM} (h : RRo E t o (min z 19999) Rs m) (q : NQ) {k p v : Int32} (hk : k = q.1) (hp : p = q.2.1) (hv : nvO E Rs q v) {K : Int32 → yM → Prop} (kk : ∀ m', PS E z z q Rs m (.inl (t, o, [])) m' → K (nI (min z 19999)) m') : yC (xg xs) D 271 [.ref 58, .int k, .int p, .int v] m (fun r m' => ∃ u, r = some (Value.int u) ∧ K u m') := by
  subst hk hp
  exact y_ci (c271n xs (D - 1) h.z9.1 h.z9.2 _ _ _) (by omega) (kk _ (PS.new h q v hv))
theorem RRe.mk {xs : List Int32} {D : Nat} (hD : 1 ≤ D) {E : EV} {c f : Int32} {m : yM} (h : RRe E c f m) {k p v : Int32} {K : Int32 → yM → Prop} (kk : ∀ id m', id < 20000 → RRe E c f m' → K (nI id) m') : yC (xg xs) D 271 [.ref 58, .int k, .int p, .int v] m (fun r m' => ∃ u, r = some (Value.int u) ∧ K u m') := by
  obtain ⟨z, z1, z2⟩ := h.2.2.2.2.1
  exact y_ci (c271n xs (D - 1) z1 z2 _ _ _) (by omega) (kk z _ (by omega) (h.nd _ _ _ _))
theorem GS.op {xs : List Int32} {D j : Nat} {as : List Value} {E : EV} {c : Nat} {Rs : List (List Int32)} {T : List (List Int32) → yM → List ND → Prop} {m : yM} {X : PX} {f : Nat → Nat → PX} {K : yM → Prop} (h : GS E c Rs T X m) (ho : ∀ t o G Rs', X = .inl (t, o, G) → RRo E t o (min (c + G.length) 19999) Rs' m → yC (xg xs) D j as m (fun r m' => r = none ∧ RZ E (min (c + G.length) 19999) Rs' m (f t o) m')) (he : ∀ c p, RRe E c p m → yC (xg xs) D j as m (fun r m' => r = none ∧ RRe E c p m')) (k : ∀ m', GS E c Rs T (p_bind X f) m' → K m') : yC (xg xs) D j as m (fun r m' => r = none ∧ K m') := by
  rcases X with ⟨t, o, G⟩ | ⟨c, p⟩
  · obtain ⟨Rs', hp, hR, hT⟩ := h
    refine y_nx (ho t o G Rs' rfl hR) (Nat.le_refl _) (fun m' q => k m' ?_)
    rw [p_bind_aft]
    rcases hf : f t o with ⟨t', o', G'⟩ | e
    · rw [hf] at q
      obtain ⟨rfl, q2, Rs2, q3, q4⟩ := q
      simp only [aft, List.append_nil]
      exact ⟨Rs2, hp.trans q3, q4, fun hz R3 m3 p3 f3 => hT hz R3 m3 (q3.trans p3) (q2.tr f3)⟩
    · rw [hf] at q
      exact q
  · exact y_nx (he c p h) (Nat.le_refl _) (fun m' q => k m' q)
theorem GS.sign {xs : List Int32} {D : Nat} (hD : 7 ≤ D) {E : EV} (hE : EOk E) {n : Nat} {Rs : List (List Int32)} {T : List (List Int32) → yM → List ND → Prop} {m : yM} {X : PX} {K : yM → Prop} (h : GS E n Rs T X m) (s : Nat) {b : Int32} (c : Int32) (hs : sOk s ∧ nI s = b ∧ nI (sK s) = c) (k : ∀ m', GS E n Rs T (p_bind X (p_exp E.1 c)) m' → K m') : yC (xg xs) D 294 [.ref 58, .int b] m (fun r m' => r = none ∧ K m') := by
  obtain ⟨hs, rfl, rfl⟩ := hs
  obtain ⟨d, rfl⟩ : ∃ d, D = d + 7 := ⟨D - 7, by omega⟩
  exact h.op (fun t o G Rs' _ hR => c294 xs d hE hR s hs) (fun c p he => c294x xs d he _) k
theorem GS.word {xs : List Int32} {D : Nat} (hD : 7 ≤ D) {E : EV} (hE : EOk E) {n : Nat} {Rs : List (List Int32)} {T : List (List Int32) → yM → List ND → Prop} {m : yM} {X : PX} {K : yM → Prop} (h : GS E n Rs T X m) (w : Nat) {c : Int32} (hw : w < 41 ∧ nI w = c) (k : ∀ m', GS E n Rs T (p_bind X (p_exp E.1 c)) m' → K m') : yC (xg xs) D 302 [.ref 58, .int c] m (fun r m' => r = none ∧ K m') := by
  obtain ⟨hw, rfl⟩ := hw
  obtain ⟨d, rfl⟩ : ∃ d, D = d + 7 := ⟨D - 7, by omega⟩
  exact h.op (fun t o G Rs' _ hR => c302 xs d hE hR w hw) (fun c p he => c302x xs d he _) k
theorem GS.next {xs : List Int32} {D : Nat} (hD : 6 ≤ D) {E : EV} (hE : EOk E) {n : Nat} {Rs : List (List Int32)} {T : List (List Int32) → yM → List ND → Prop} {m : yM} {X : PX} {K : yM → Prop} (h : GS E n Rs T X m) (h67 : ∀ t o G, X = .inl (t, o, G) → ¬ E.1.1 9 t = 67) (k : ∀ m', GS E n Rs T (p_bind X (p_step E.1)) m' → K m') : yC (xg xs) D 272 [.ref 58] m (fun r m' => r = none ∧ K m') := by
  obtain ⟨d, rfl⟩ : ∃ d, D = d + 6 := ⟨D - 6, by omega⟩
  exact h.op (fun t o G Rs' e hR => c272r xs d hE hR (h67 t o G e)) (fun c p he => c272x xs d he) k
theorem GS.opens {xs : List Int32} {D : Nat} (hD : 2 ≤ D) {E : EV} {n : Nat} {Rs : List (List Int32)} {T : List (List Int32) → yM → List ND → Prop} {m : yM} {X : PX} {K : yM → Prop} (h : GS E n Rs T X m) (k : ∀ m', GS E n Rs T (p_bind X (p_opn E.1)) m' → K m') : yC (xg xs) D 307 [.ref 58] m (fun r m' => r = none ∧ K m') := by
  obtain ⟨d, rfl⟩ : ∃ d, D = d + 2 := ⟨D - 2, by omega⟩
  exact h.op (fun t o G Rs' e hR => c307 xs d hR) (fun c p he => c307x xs d he) k
/-- is it this token? -/
def tkx (m0 : yM) (X : PX) (k : Int32) : Int32 := match X with
  | .inl (t, _, _) => if m0.1 9 t = k then 1 else 0
  | .inr _ => 0
theorem GS.isW {xs : List Int32} {D : Nat} (hD : 1 ≤ D) {E : EV} {n : Nat} {Rs : List (List Int32)} {T : List (List Int32) → yM → List ND → Prop} {m : yM} {X : PX} {K : Int32 → yM → Prop} (h : GS E n Rs T X m) (w : Nat) {c : Int32} (hw : w < 41 ∧ nI w = c) (k : K (tkx E.1 X c) m) : yC (xg xs) D 290 [.ref 58, .int c] m (fun r m' => ∃ u, r = some (Value.int u) ∧ K u m') := by
  obtain ⟨hw, rfl⟩ := hw
  obtain ⟨d, rfl⟩ : ∃ d, D = d + 1 := ⟨D - 1, by omega⟩
  rcases X with ⟨t, o, G⟩ | ⟨c, p⟩
  · obtain ⟨Rs', hp, hR, hT⟩ := h
    exact y_ci (c290 xs d hR w hw) (Nat.le_refl _) k
  · exact y_ci (c290x xs d h _) (Nat.le_refl _) k
theorem GS.isS {xs : List Int32} {D : Nat} (hD : 1 ≤ D) {E : EV} {n : Nat} {Rs : List (List Int32)} {T : List (List Int32) → yM → List ND → Prop} {m : yM} {X : PX} {K : Int32 → yM → Prop} (h : GS E n Rs T X m) (s : Nat) {b : Int32} (c : Int32) (hs : sOk s ∧ nI s = b ∧ nI (sK s) = c) (k : K (tkx E.1 X c) m) : yC (xg xs) D 295 [.ref 58, .int b] m (fun r m' => ∃ u, r = some (Value.int u) ∧ K u m') := by
  obtain ⟨hs, rfl, rfl⟩ := hs
  obtain ⟨d, rfl⟩ : ∃ d, D = d + 1 := ⟨D - 1, by omega⟩
  rcases X with ⟨t, o, G⟩ | ⟨c, p⟩
  · obtain ⟨Rs', hp, hR, hT⟩ := h
    exact y_ci (c295 xs d hR s hs) (Nat.le_refl _) k
  · exact y_ci (c295x xs d h _) (Nat.le_refl _) k
theorem GS.isK {xs : List Int32} {D : Nat} (hD : 1 ≤ D) {E : EV} {n : Nat} {Rs : List (List Int32)} {T : List (List Int32) → yM → List ND → Prop} {m : yM} {X : PX} {K : Int32 → yM → Prop} (h : GS E n Rs T X m) (b J : Nat) {e : Int32} (c : Int32) (hs : kOk b J ∧ nI b = e ∧ nI J = c) (k : K (tkx E.1 X c) m) : yC (xg xs) D 293 [.ref 58, .int e] m (fun r m' => ∃ u, r = some (Value.int u) ∧ K u m') := by
  obtain ⟨hs, rfl, rfl⟩ := hs
  obtain ⟨d, rfl⟩ : ∃ d, D = d + 1 := ⟨D - 1, by omega⟩
  rcases X with ⟨t, o, G⟩ | ⟨c, p⟩
  · obtain ⟨Rs', hp, hR, hT⟩ := h
    exact y_ci (c293 xs d hR b J hs) (Nat.le_refl _) k
  · exact y_ci (c293x xs d h _) (Nat.le_refl _) k
theorem tkx_y {m0 : yM} {X : PX} {k : Int32} (h : ¬ tkx m0 X k = 0) : ∃ t o G, X = .inl (t, o, G) ∧ m0.1 9 t = k := by
  rcases X with ⟨t, o, G⟩ | e
  · refine ⟨t, o, G, rfl, ?_⟩
    unfold tkx at h
    dsimp only at h
    by_cases z : m0.1 9 t = k
    · exact z
    · rw [if_neg z] at h; exact absurd rfl h
  · exact absurd rfl h
theorem tkx_n {m0 : yM} {X : PX} {k : Int32} (h : tkx m0 X k = 0) : ∀ t o G, X = .inl (t, o, G) → ¬ m0.1 9 t = k := by
  intro t o G e z
  subst e
  unfold tkx at h
  dsimp only at h
  rw [if_pos z] at h
  exact absurd h (by decide)
theorem TN.last {E : EV} {Rs : List (List Int32)} {m : yM} {a lo hi : Nat} {q : NQ} {Cs : List CT} (h : TN E Rs m a q Cs lo hi) (h9 : hi ≤ 20000) (h66 : ¬ m.1 66 a = -1) : lo ≤ (m.1 67 a).toNatClampNeg ∧ (m.1 67 a).toNatClampNeg < hi ∧ (m.1 67 a).toNatClampNeg ≠ a := by
  obtain ⟨t1, t2, t3, ⟨l1, l2, l3, l4⟩, t5, t6⟩ := h
  have ne : Cs.length ≠ 0 := by
    intro z
    rw [l1, List.getElem?_eq_none (by omega)] at h66
    exact h66 rfl
  have g := List.getElem?_eq_getElem (show Cs.length - 1 < Cs.length by omega)
  have o := t5.1 _ _ g
  have e : (m.1 67 a).toNatClampNeg = (Cs[Cs.length - 1]).1 := by
    rw [l2, g]
    exact nI_clamp (by omega)
  rw [e]
  omega
theorem PS.ad {E : EV} {z a : Nat} {q : NQ} {Rs Rs' : List (List Int32)} {m0 m m1 : yM} {G : List ND} {Y : PX} {id : Nat} (hp : Rs <+: Rs') (hT : z + 1 + G.length ≤ 19999 → ∀ R2 m2, Rs' <+: R2 → FM m m2 → PT E z a q m0 R2 m2 G) (hid : id < 20000) (hq : RQ E (z + 1 + G.length) Rs' m Y id m1) : PS E z a q Rs m0 (aft G Y) (adM m1 (min a 19999) id) := by
  rcases Y with ⟨t', o', G'⟩ | ⟨c, p⟩
  · obtain ⟨Rs2, p2, r2, T2⟩ := hq
    refine ⟨Rs2, hp.trans p2, ?_, fun hz R3 m3 p3 f3 => ?_⟩
    · rw [show z + 1 + (G ++ G').length = z + 1 + G.length + G'.length from by rw [List.length_append]; omega]
      exact r2.ad hid
    · refine PT.st ?_ p3 f3
      rw [List.length_append] at hz
      obtain ⟨a1, a2, a3, Cs, a4, a5⟩ := hT (by omega) Rs' m (List.prefix_refl _) (FM.re m)
      obtain ⟨b1, b2, b3, b4⟩ := T2 (by omega) Rs2 m1 (List.prefix_refl _) (FM.re m1)
      have ha := a5.2.1
      have ha0 := a5.1
      rw [show min a 19999 = a from by omega]
      have T3 := a5.fr p2 (b1.ag (Nat.le_refl _) a)
      have i9 := b4.id
      dsimp only at i9
      have la := T3.last (by omega)
      have T4 := T3.snoc (id, z + 1 + G.length, z + 1 + G.length + G'.length, G') (hi' := z + 1 + (G ++ G').length) b4 (Nat.le_refl _) (by rw [List.length_append]; dsimp only; omega) (by rw [List.length_append]; omega) b3
      refine ⟨fun k x k1 k2 k3 => ?_, ?_, ?_, Cs ++ [(id, z + 1 + G.length, z + 1 + G.length + G'.length, G')], by rw [flt_snoc, a4], T4⟩
      · rw [adM_o (by omega) (by omega) (by omega) (fun u => by have := la u.2.2; omega) (by omega), b1 k x k1 k2 (by omega)]
        exact a1 k x k1 k2 k3
      · rw [adM_o (by omega) (by omega) (by omega) (by omega) (by omega), b1 65 a (by omega) (by omega) ha]
        exact a2
      · rw [adM_o (by omega) (by omega) (by omega) (fun u => by have := la u.2.2; omega) (by omega), b1 68 a (by omega) (by omega) ha]
        exact a3
  · exact RRe.ad hq hid
theorem PS.cadd {xs : List Int32} {D j : Nat} {as : List Value} (hD : 1 ≤ D) {E : EV} {z a : Nat} {q : NQ} {Rs : List (List Int32)} {m0 m : yM} {X X' : PX} {g : Nat → Nat → Option PX} {l : Int32} {K : yM → Prop} (h : PS E z a q Rs m0 X m) (hX : po (some X) g = some X') (hl : l = nI (min a 19999)) (ho : ∀ t o G Rs' Y, X = .inl (t, o, G) → g t o = some Y → RRo E t o (min (z + 1 + G.length) 19999) Rs' m → yC (xg xs) D j as m (RM E (z + 1 + G.length) Rs' m Y)) (he : ∀ c p, RRe E c p m → yC (xg xs) D j as m (RM E 0 [] m (.inr (c, p)))) (k : ∀ m', PS E z a q Rs m0 X' m' → K m') : yC (xg xs) D j as m (fun r m1 => ∃ u, r = some (Value.int u) ∧ yC (xg xs) D 297 [.ref 58, .int l, .int u] m1 (fun r m' => r = none ∧ K m')) := by
  subst hl
  rcases X with ⟨t, o, G⟩ | ⟨c, p⟩
  · obtain ⟨Rs', hp, hR, hT⟩ := h
    unfold po at hX
    dsimp only at hX
    rcases hg : g t o with _ | Y
    · rw [hg] at hX; cases hX
    · rw [hg] at hX
      have hX : aft G Y = X' := Option.some.inj hX
      subst hX
      refine yC.mono (Nat.le_refl _) (fun r m1 hq => ?_) (ho t o G Rs' Y rfl hg hR)
      obtain ⟨id, i1, i2, i3⟩ := hq
      have gi : GI m1 := by
        rcases Y with ⟨t', o', G'⟩ | e
        · obtain ⟨_, _, r2, _⟩ := i3
          exact r2.gi
        · exact (show RRe E e.1 e.2 m1 from i3).2.2.2.2.2.1
      exact ⟨nI id, i2, y_cv (c297 xs (D - 1) gi (by omega) i1) (by omega) (k _ (PS.ad hp hT i1 i3))⟩
  · have hX0 : (.inr (c, p) : PX) = X' := Option.some.inj hX
    subst hX0
    refine yC.mono (Nat.le_refl _) (fun r m1 hq => ?_) (he c p h)
    obtain ⟨id, i1, i2, i3⟩ := hq
    have i3 : RRe E c p m1 := i3
    exact ⟨nI id, i2, y_cv (c297 xs (D - 1) i3.2.2.2.2.2.1 (by omega) i1) (by omega) (k _ (i3.ad i1))⟩
theorem PS.finq {E : EV} {z a : Nat} {q : NQ} {Rs : List (List Int32)} {m0 m : yM} {X : PX} (h : PS E z a q Rs m0 X m) : RQ E z Rs m0 (p_node q.1 q.2.1 q.2.2.1 q.2.2.2 X) (min a 19999) m := by
  rcases X with ⟨t, o, G⟩ | ⟨c, p⟩
  · obtain ⟨Rs', hp, hR, hT⟩ := h
    show ∃ _, _
    have el : z + ((q.1, q.2.1, q.2.2.1, q.2.2.2, G.length + 1) :: G).length = z + 1 + G.length := by simp only [List.length_cons]; omega
    refine ⟨Rs', hp, ?_, fun hz R2 m2 p2 f2 => ?_⟩
    · rw [el]; exact hR
    · rw [el] at hz
      obtain ⟨a1, a2, a3, Cs, a4, a5⟩ := hT hz R2 m2 p2 f2
      have ha := a5.2.1
      rw [show min a 19999 = a from by omega]
      refine ⟨a1, a2, a3, ?_⟩
      have := a5.rt
      rw [a4] at this
      rw [el, List.length_cons]
      exact this
  · exact h
theorem PS.fin {E : EV} {z a : Nat} {q : NQ} {Rs : List (List Int32)} {m0 m : yM} {X : PX} (h : PS E z a q Rs m0 X m) {l : Int32} (hl : l = nI (min a 19999)) : RM E z Rs m0 (p_node q.1 q.2.1 q.2.2.1 q.2.2.2 X) (some (.int l)) m :=
  ⟨min a 19999, by omega, by rw [hl], h.finq⟩
/-- one less is open -/
theorem GS.dec {E : EV} {n : Nat} {Rs : List (List Int32)} {T : List (List Int32) → yM → List ND → Prop} {m : yM} {X : PX} (h : GS E n Rs T X m) (h1 : ∀ t o G, X = .inl (t, o, G) → 1 ≤ o) : GS E n Rs T (p_bind X ddec) (y_si m 58 22 (m.1 58 22 - 1)) := by
  rcases X with ⟨t, o, G⟩ | ⟨c, p⟩
  · obtain ⟨Rs', hp, hR, hT⟩ := h
    have ho := h1 t o G rfl
    obtain ⟨k, rfl⟩ : ∃ k, o = k + 1 := ⟨o - 1, by omega⟩
    have h22 : m.1 58 22 = nI (k + 1) := hR.2.2.2.2.2.2.2.2.2.2.2.1
    have h60 : k + 1 ≤ 60 := hR.2.2.2.2.2.2.2.2.2.2.2.2.1
    rw [p_bind_aft, h22, nI_pred]
    simp only [ddec, aft, List.append_nil, Nat.add_sub_cancel]
    exact ⟨Rs', hp, hR.op k (by omega), fun hz R2 m2 p2 f2 => hT hz R2 m2 p2 ((FM.si (by decide)).tr f2)⟩
  · exact RRe.si h (by omega)
/-- as many are open as before -/
theorem GS.rst {E : EV} {n : Nat} {Rs : List (List Int32)} {T : List (List Int32) → yM → List ND → Prop} {m : yM} {X : PX} (h : GS E n Rs T X m) {o : Nat} (h1 : o ≤ 60) : GS E n Rs T (rst o X) (y_si m 58 22 (nI o)) := by
  rcases X with ⟨t, o', G⟩ | ⟨c, p⟩
  · obtain ⟨Rs', hp, hR, hT⟩ := h
    exact ⟨Rs', hp, hR.op o h1, fun hz R2 m2 p2 f2 => hT hz R2 m2 p2 ((FM.si (by decide)).tr f2)⟩
  · exact RRe.si h (by omega)
theorem GS.re {E : EV} {n : Nat} {Rs : List (List Int32)} {T : List (List Int32) → yM → List ND → Prop} {m : yM} {c p : Int32} (h : GS E n Rs T (.inr (c, p)) m) : RRe E c p m := h
