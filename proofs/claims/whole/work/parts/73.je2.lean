/-! THE REFERENCE'S RULES: names -/
theorem RJ.up0 {J : JV} {D : Nat → Prop} {σ σ' : RS} {m m' : yM} {n : Nat} (h : RJ J D σ m) (hn : n < J.2.2.1.length) (hT' : JT J m') (g : ∀ a i, 69 < a → a < 84 → m'.1 a i = m.1 a i) (g2 : ∀ a i, 83 < a → a < 89 → i ≠ J.2.2.2 n → m'.1 a i = m.1 a i) (g5 : ∀ i, i = 3 ∨ i = 23 ∨ i = 29 ∨ i = 30 → m'.1 58 i = m.1 58 i) (e1 : σ'.1 = σ.1) (e2 : σ'.2.1 = σ.2.1) (ek : ∀ i, i ≠ n → σ'.2.2.1 i = σ.2.2.1 i ∧ σ'.2.2.2.1 i = σ.2.2.2.1 i ∧ σ'.2.2.2.2 i = σ.2.2.2.2 i) (hkn : ¬ (kK J.2.2.1 n = 8 ∨ kK J.2.2.1 n = 9 ∨ kK J.2.2.1 n = 10)) (hcv : cnK (kK J.2.2.1 n) → σ'.2.2.2.1 n = σ.2.2.2.1 n) (hnv : nvR J σ' m' n) : RJ J (fun i => D i ∨ i = n) σ' m' := by
  obtain ⟨hT, hR, hD⟩ := h
  refine ⟨hT', hR.nd e1 e2 (fun t ht => ek t (fun e => hkn (e ▸ ht))) (fun t ht => ?_) g g5, fun i hi => ?_⟩
  · by_cases e : t = n
    · subst e; exact hcv ht
    · exact (ek t e).2.1
  · by_cases e : i = n
    · subst e; exact ⟨hn, hnv⟩
    · have di := hi.resolve_right e
      obtain ⟨d1, d2⟩ := hD i di
      obtain ⟨k1, k2, k3⟩ := ek i e
      exact ⟨d1, d2.fr k1 k2 k3 (fun a x y => g2 a _ x y (fun z => e (hT.2.2.1 i n d1 hn z)))⟩
theorem RJ.up {J : JV} {D : Nat → Prop} {σ σ' : RS} {m m' : yM} {n : Nat} (h : RJ J D σ m) (hn : n < J.2.2.1.length) (jk : JK m m') (g : ∀ a i, 69 < a → a < 84 → m'.1 a i = m.1 a i) (g2 : ∀ a i, 83 < a → a < 89 → i ≠ J.2.2.2 n → m'.1 a i = m.1 a i) (g5 : ∀ i, i = 3 ∨ i = 23 ∨ i = 29 ∨ i = 30 → m'.1 58 i = m.1 58 i) (e1 : σ'.1 = σ.1) (e2 : σ'.2.1 = σ.2.1) (ek : ∀ i, i ≠ n → σ'.2.2.1 i = σ.2.2.1 i ∧ σ'.2.2.2.1 i = σ.2.2.2.1 i ∧ σ'.2.2.2.2 i = σ.2.2.2.2 i) (hkn : ¬ (kK J.2.2.1 n = 8 ∨ kK J.2.2.1 n = 9 ∨ kK J.2.2.1 n = 10)) (hcv : cnK (kK J.2.2.1 n) → σ'.2.2.2.1 n = σ.2.2.2.1 n) (hnv : nvR J σ' m' n) : RJ J (fun i => D i ∨ i = n) σ' m' := RJ.up0 h hn (h.1.k jk) g g2 g5 e1 e2 ek hkn hcv hnv
theorem RJ.upp {J : JV} {D : Nat → Prop} {σ σ' : RS} {m m' : yM} {n : Nat} (h : RJ J D σ m) (hn : n < J.2.2.1.length) {p : Nat} (jk : JP p m m') (g : ∀ a i, 69 < a → a < 84 → m'.1 a i = m.1 a i) (g2 : ∀ a i, 83 < a → a < 89 → i ≠ J.2.2.2 n → m'.1 a i = m.1 a i) (g5 : ∀ i, i = 3 ∨ i = 23 ∨ i = 29 ∨ i = 30 → m'.1 58 i = m.1 58 i) (e1 : σ'.1 = σ.1) (e2 : σ'.2.1 = σ.2.1) (ek : ∀ i, i ≠ n → σ'.2.2.1 i = σ.2.2.1 i ∧ σ'.2.2.2.1 i = σ.2.2.2.1 i ∧ σ'.2.2.2.2 i = σ.2.2.2.2 i) (hkn : ¬ (kK J.2.2.1 n = 8 ∨ kK J.2.2.1 n = 9 ∨ kK J.2.2.1 n = 10)) (hcv : cnK (kK J.2.2.1 n) → σ'.2.2.2.1 n = σ.2.2.2.1 n) (hnv : nvR J σ' m' n) : RJ J (fun i => D i ∨ i = n) σ' m' := RJ.up0 h hn (h.1.kp jk) g g2 g5 e1 e2 ek hkn hcv hnv
theorem nvR.tr {J : JV} {σ : RS} {m : yM} {n : Nat} (h1 : ¬ exK (kK J.2.2.1 n)) (h2 : ¬ (kK J.2.2.1 n = 13 ∨ kK J.2.2.1 n = 14 ∨ kK J.2.2.1 n = 19)) : nvR J σ m n := ⟨fun e => absurd e h1, fun e => by omega, fun e => by omega, fun e => by omega⟩
/-- a node of which nothing is kept -/
theorem RJ.add {J : JV} {D : Nat → Prop} {σ : RS} {m : yM} {n : Nat} (h : RJ J D σ m) (hn : n < J.2.2.1.length) (hnv : nvR J σ m n) : RJ J (fun i => D i ∨ i = n) σ m := ⟨h.1, h.2.1, fun i hi => hi.elim (h.2.2 i) (fun e => by subst e; exact ⟨hn, hnv⟩)⟩
theorem shp {J : JV} {σ : RS} {m : yM} {v : Nat} {y : Int32 × Nat × Int32 × Int32} (h : vdR J σ m v y) : (m.1 76 v = 0 ↔ σ.2.2.1 y.2.1 = 8) ∧ (m.1 76 v = 1 ↔ σ.2.2.1 y.2.1 = 9) ∧ (m.1 76 v = 2 ↔ σ.2.2.1 y.2.1 = 10) := by
  obtain ⟨-, -, -, -, h, -⟩ := h
  rcases h with q | q | q
  · rw [q.1, q.2.1]; decide
  · rw [q.1, q.2.1]; decide
  · rw [q.1, q.2.1]; decide
theorem fVar_f {σ : RS} {x : Int32} {v : Nat} (h4 : σ.2.1.length ≤ 4096) (hl : (curB σ).2.2.2.2 ≤ 4096) (hv : v < 4097) (e : fVar σ x = nI v) : (curB σ).2.2.2.2 ≤ v := by
  unfold fVar at e
  rcases lix_c σ.2.1 x σ.2.1.length with q | ⟨u, u1, u2, u3⟩
  · rw [q] at e
    split at e
    · exact absurd e.symm (nI_m1 (by omega))
    · exact absurd e.symm (nI_m1 (by omega))
  · rw [u2] at e
    by_cases z : nI u < nI (curB σ).2.2.2.2
    · rw [if_pos z] at e
      exact absurd e.symm (nI_m1 (by omega))
    · rw [if_neg z] at e
      have := (nI_eq (a := u) (b := v) (by omega) (by omega)).mp e
      rcases Nat.lt_or_ge v (curB σ).2.2.2.2 with y | y
      · exact absurd (nI_lt (by omega) (by omega)) z
      · exact y
theorem RB.cf {J : JV} {σ : RS} {m : yM} (h : RB J σ m) (h0 : 0 < σ.1.length) : (curB σ).2.2.2.2 ≤ σ.2.1.length := (h.b (show σ.1.length - 1 < σ.1.length by omega)).2.2.2.2.2.1
/-- named: the variable, or what is broken -/
def nmF (σ : RS) (x form : Int32) : Int32 := if fVar σ x = -1 then 20 else if frm σ (fVar σ x).toNatClampNeg = form then 0 else 21
theorem c344 (xs : List Int32) (d : Nat) {J : JV} (hN : JN J) {σ : RS} {m : yM} (hT : JT J m) (hR : RB J σ m) (h0 : 0 < σ.1.length) (hd : dsB σ) (hD : allD σ) {n : Nat} (hn : n < J.2.2.1.length) (hvt : ¬ vtF J.2.2.1 n = 0) {s form : Int32} (hs : (s = 0 ∧ form = 8) ∨ (s = 1 ∧ form = 9) ∨ (s = 2 ∧ form = 10)) : yC (xg xs) (d + 3) 344 [.ref 58, .int (nI (J.2.2.2 n)), .int s] m (fun r m' => r = some (.int (fVar σ (vF J.2.2.1 n))) ∧ m' = y_si (if nmF σ (vF J.2.2.1 n) form = 0 then m else flM2 J m (nmF σ (vF J.2.2.1 n) form) n) 85 (J.2.2.2 n) (fVar σ (vF J.2.2.1 n))) := by
  have nx := hT.2.1 n hn
  have hx := nx.2.2.2.2.1 hvt
  have ei := hT.c hn
  have xi := hT.x hn
  have f0 := hR.f0
  have n2 := hR.nV.2
  generalize vF J.2.2.1 n = x at hx
  have fin : ∀ (m1 : yM) (c : Int32), yP (xg xs) (d + 3) 344 57 [(0, .ref 58), (1, .int (nI (J.2.2.2 n))), (3, .int c)] [] m1 (fun r m' => r = some (.int c) ∧ m' = y_si m1 85 (J.2.2.2 n) c) := fun m1 c => w344_57 xs (d + 2) _ _ m1 _ ⟨xi, rfl, by rw [ei]⟩
  refine w344_0 xs (d + 2) _ _ m _ ⟨xi, ?_⟩
  rw [ei]
  refine y_ci (c337 xs d hN hR h0 hd hx) (by omega) ?_
  unfold nmF
  rcases fVar_c σ x with e | ⟨v, v1, v2, v3⟩
  · rw [e, if_pos rfl, if_neg (by decide)]
    refine ⟨fun w => absurd rfl w, fun _ => w344_24 xs (d + 2) _ _ _ _ _ m _ (rl1 (by omega) hT hn f0 ⟨fun _ => fin _ _, fun w => absurd w ?_⟩)⟩
    exact (FE.mk J m (show (0 : Int32) < 20 by decide) n).ne
  · have vo := hD v v1
    obtain ⟨-, hv⟩ := hR.d vo
    have sh := shp hv
    have xv : x_in (nI v) 4700 = true := x_in_nI (by omega) (by decide)
    have cv : (nI v).toNatClampNeg = v := nI_clamp (by omega)
    have fr : (m.1 76 v = s) ↔ frm σ v = form := by
      unfold frm
      rcases hs with ⟨rfl, rfl⟩ | ⟨rfl, rfl⟩ | ⟨rfl, rfl⟩
      · exact sh.1
      · exact sh.2.1
      · exact sh.2.2
    rw [v2, if_neg (nI_m1 (by omega)), cv]
    refine ⟨fun _ => w344_24 xs (d + 2) _ _ _ _ _ m _ (rl0 ⟨fun w => absurd f0 w, fun _ => ⟨xv, ?_⟩⟩), fun w => absurd w (nI_m1 (by omega))⟩
    rw [cv]
    refine ⟨fun w => w344_53 xs (d + 2) _ _ _ _ m _ (rl0 ?_), fun w => w344_53 xs (d + 2) _ _ _ _ m _ (rl1 (by omega) hT hn f0 ?_)⟩
    · rw [if_pos (fr.mp w), if_pos rfl]
      exact fin _ _
    · rw [if_neg (fun z => w (fr.mpr z)), if_neg (by decide)]
      exact fin _ _
/-- the type of a variable -/
theorem tyV_r {J : JV} {σ : RS} {m : yM} {v : Nat} (h : vdR J σ m v (vD σ v)) (hf : frm σ v = 8 ∨ frm σ v = 9) : m.1 77 v = tyV σ v := by
  obtain ⟨-, -, -, -, h, -⟩ := h
  unfold tyV
  unfold frm at hf ⊢
  rcases h with q | q | q
  · rw [if_neg (by rw [q.1]; decide)]; exact q.2.2.1
  · rw [if_pos q.1]; exact q.2.2.1
  · rw [q.1] at hf; exact absurd hf (by decide)
/-- the loop over blocks that asks whether a name is taken (judgeName) -/
theorem c336L (xs : List Int32) (d : Nat) {J : JV} (hN : JN J) {σ : RS} (h4 : σ.1.length ≤ 399) {x y l1 : Int32} (hx : NM J x y) {m : yM} (hb : BN J σ m) {Q : Option Value → yM → Prop} : ∀ (q b : Nat) (u : Int32), b + q = σ.1.length → (u = 0 ∨ u = 1) → yP (xg xs) (d + 1) 336 156 [(0, .ref 58), (1, .int l1), (2, .int y), (4, .int (agA σ x q b u)), (5, .int (nI σ.1.length))] [] m Q → yP (xg xs) (d + 1) 336 156 [(0, .ref 58), (1, .int l1), (2, .int y), (4, .int u), (5, .int (nI b))] [] m Q
  | 0, b, u, hq, hu, K => by
    have e : b = σ.1.length := by omega
    subst e
    exact K
  | q + 1, b, u, hq, hu, K => by
    obtain ⟨n1, n2⟩ := hb
    have eq := NM.eq hN (n2 b (by omega)) hx
    have es : agA σ x (q + 1) b u = agA σ x q (b + 1) (if u = 0 ∧ ¬ (σ.1.getD b dBK).2.2.1 = x then 0 else 1) := rfl
    rw [es] at K
    have nx : ∀ u', u' = (if u = 0 ∧ ¬ (σ.1.getD b dBK).2.2.1 = x then 0 else 1) → yP (xg xs) (d + 1) 336 186 [(0, .ref 58), (1, .int l1), (2, .int y), (5, .int (nI b))] [.int u'] m Q := by
      intro u' e'
      refine w336_186 xs d _ _ _ _ m _ ?_
      rw [nI_1]
      refine c336L xs d hN h4 hx ⟨n1, n2⟩ q (b + 1) u' (by omega) (by rw [e']; split <;> simp) ?_
      rw [e']
      exact K
    refine w336_156 xs d _ _ _ _ m _ ⟨fun z => ?_, fun _ => ⟨fun z => ?_, fun z => ⟨x_in_nI (by omega) (by decide), ?_⟩⟩⟩
    · rw [n1] at z
      exact absurd ((nI_leI (by omega) (by omega)).mp z) (by omega)
    · exact w336_181 xs d _ _ _ m _ (nx 1 (by rw [if_neg (fun w => z w.1)]))
    · rw [nI_clamp (by omega)]
      refine ⟨fun w => nx 0 ?_, fun w => w336_181 xs d _ _ _ m _ (nx 1 ?_)⟩
      · rw [if_pos ⟨z, fun v => w (eq.mp v)⟩]
      · rw [if_neg (fun v => v.2 (eq.mpr w))]
/-- a name that is declared -/
def dcM (J : JV) (σ : RS) (m : yM) (n g : Nat) : yM := y_si (nwV m σ.2.1.length (m.1 64 (J.2.2.2 n))) 81 σ.2.1.length (vF J.2.2.1 g)
theorem c336d (xs : List Int32) (d : Nat) {J : JV} (hO : JO J) {D : Nat → Prop} {σ : RS} {m : yM} (h : RJ J D σ m) (h0 : 0 < σ.1.length) (hd : dsB σ) (hV : σ.2.1.length < 4096) {A : List Nat} {n p g : Nat} (hp : p < J.2.2.1.length) (hj : ∃ j : Nat, (kids J.2.2.1 p)[j]? = some n) (kp : kK J.2.2.1 p = 5) (hg : g < J.2.2.1.length) (hg2 : ∃ j : Nat, (kids J.2.2.1 g)[j]? = some p) (vg : vtF J.2.2.1 g = 0) (hA : fPar A = p) (kσ : σ.2.2.1 p = 5) (hvt : ¬ vtF J.2.2.1 n = 0) (hvn : σ.2.2.2.1 n = vF J.2.2.1 n) : yC (xg xs) (d + 6) 336 [.ref 58, .int (nI (J.2.2.2 n))] m (fun r m' => JQw J D m n (lkName σ A n) r m' ∧ ∀ σ', lkName σ A n = .inl σ' → m' = dcM J σ m n g) := by
  obtain ⟨hT, hR, hD⟩ := h
  obtain ⟨hn, u65⟩ := hT.up hp hj
  obtain ⟨-, g65⟩ := hT.up hg hg2
  have nx := hT.2.1 n hn
  have np := hT.2.1 p hp
  have hx := nx.2.2.2.2.1 hvt
  have ei := hT.c hn
  have xi := hT.x hn
  have f0 := hR.f0
  have h4 := hR.nB.2
  have vg64 := (hT.2.1 g hg).2.2.2.1 vg
  unfold lkName
  rw [hA, kσ, if_neg (by decide), if_pos rfl, hvn]
  unfold dcM
  generalize hX : vF J.2.2.1 n = x at hx hvn
  generalize hY : m.1 64 (J.2.2.2 n) = y at hx
  have fin : ∀ u : Int32, u = (if ¬ fVar σ x = -1 ∨ isSt x then 1 else 0) → yP (xg xs) (d + 6) 336 151 [(0, .ref 58), (1, .int (nI (J.2.2.2 n))), (2, .int y)] [.int u] m (fun r m' => JQw J D m n (if ¬ fVar σ x = -1 ∨ ¬ bix σ.1 x σ.1.length = -1 ∨ isSt x then .inr 12 else .inl (decl σ x)) r m' ∧ ∀ σ', (if ¬ fVar σ x = -1 ∨ ¬ bix σ.1 x σ.1.length = -1 ∨ isSt x then .inr 12 else .inl (decl σ x) : RS ⊕ Int32) = .inl σ' → m' = y_si (nwV m σ.2.1.length y) 81 σ.2.1.length (vF J.2.2.1 g)) := by
    intro u hu
    refine w336_151 xs (d + 5) _ _ _ m _ ?_
    refine c336L xs (d + 5) hO.1 h4 hx hR.bn σ.1.length 0 u (by omega) (by rw [hu]; split <;> simp) ?_
    rw [hu, agA_0 h4]
    have n1 := hR.nB.1
    refine w336_156 xs (d + 5) _ _ _ _ m _ ⟨fun _ => ?_, fun z => absurd ?_ z⟩
    rotate_left
    · rw [n1]; exact nI_le (Nat.le_refl _) (by omega)
    have iff : ((¬ fVar σ x = -1 ∨ isSt x) ∨ ¬ bix σ.1 x σ.1.length = -1) ↔ (¬ fVar σ x = -1 ∨ ¬ bix σ.1 x σ.1.length = -1 ∨ isSt x) := by
      constructor
      · rintro ((q | q) | q)
        · exact Or.inl q
        · exact Or.inr (Or.inr q)
        · exact Or.inr (Or.inl q)
      · rintro (q | q | q)
        · exact Or.inl (Or.inl q)
        · exact Or.inr q
        · exact Or.inl (Or.inr q)
    by_cases c : ¬ fVar σ x = -1 ∨ ¬ bix σ.1 x σ.1.length = -1 ∨ isSt x
    · rw [if_pos (iff.mpr c), if_pos c]
      refine rl1 (by omega) hT hn f0 ?_
      have fe := FE.mk J m (show (0 : Int32) < 12 by decide) n
      exact ⟨fun _ => ⟨⟨rfl, (JW.re m).fl J 12 n, fe⟩, fun σ' e => by cases e⟩, fun z => absurd z fe.ne⟩
    · rw [if_neg (fun z => c (iff.mp z)), if_neg c]
      refine rl0 ⟨fun z => absurd f0 z, fun _ => ?_⟩
      obtain ⟨v1, v2⟩ := hR.nV
      refine y_ci (c326 xs (d + 4) v1 (by omega) y) (by omega) ?_
      have jk : JW m (nwV m σ.2.1.length y) := by
        unfold nwV
        exact ((((((JW.re m).si (by omega)).si (by omega)).si (by omega)).si (by omega)).si (by omega)).si (by omega)
      have atn := nwV_at m σ.2.1.length y
      have hT1 := hT.kw jk
      have a65 : (nwV m σ.2.1.length y).1 65 (J.2.2.2 n) = nI (J.2.2.2 p) := (hT1.up hp hj).2
      have b65 : (nwV m σ.2.1.length y).1 65 (J.2.2.2 p) = nI (J.2.2.2 g) := (hT1.up hg hg2).2
      have g64 : (nwV m σ.2.1.length y).1 64 (J.2.2.2 g) = vF J.2.2.1 g := (hT1.2.1 g hg).2.2.2.1 vg
      rw [ei, a65, hT.c hp, b65, hT.c hg, g64, nI_clamp (by omega)]
      refine ⟨xi, hT.x hp, hT.x hg, x_in_nI (by omega) (by decide), ⟨rfl, jk.si (by omega), hT.kw (jk.si (by omega)), ?_, ?_⟩, fun _ _ => rfl⟩
      · refine RB.dc hR hV hx (fun a i h1 h2 h3 => ?_) (fun i hi => ?_) ?_ ?_ ?_
        · rw [y_si_at, if_neg (by omega), atn, if_neg (by omega), if_neg (by omega), if_neg (by omega), if_neg (by omega), if_neg (by omega), if_neg (by omega)]
        · rw [y_si_at, if_neg (by omega), atn, if_neg (by omega), if_neg (by omega), if_neg (by omega), if_neg (by omega), if_neg (by omega), if_neg (by omega)]
        · rw [y_si_at, if_neg (by omega), atn, if_pos ⟨rfl, rfl⟩]
        · rw [y_si_at, if_neg (by omega), atn, if_neg (by omega), if_neg (by omega), if_neg (by omega), if_neg (by omega), if_neg (by omega), if_pos ⟨rfl, rfl⟩]
        · unfold vuR
          simp only [y_si_at, atn]
          simp
      · exact RJ.nd hD rfl (fun a i h1 h2 => by rw [y_si_at, if_neg (by omega), atn, if_neg (by omega), if_neg (by omega), if_neg (by omega), if_neg (by omega), if_neg (by omega), if_neg (by omega)])
  refine w336_0 xs (d + 5) _ m _ ⟨xi, xi, ?_, ?_⟩
  · rw [ei, u65]; exact hT.x hp
  · rw [ei, u65, hT.c hp, np.2.1, kp, hY]
    refine ⟨fun _ => ⟨fun _ => ?_, fun z => absurd rfl z⟩, fun z => absurd z (by decide)⟩
    refine y_ci (c337 xs (d + 3) hO.1 hR h0 hd hx) (by omega) ⟨fun w => w336_146 xs (d + 5) _ _ m _ (fin 1 (by rw [if_pos (Or.inl w)])), fun w => ?_⟩
    refine y_ci (c324 xs d hO hT hx) (by omega) ⟨fun q => fin 0 ?_, fun q => w336_146 xs (d + 5) _ _ m _ (fin 1 (by rw [if_pos (Or.inr (if1 q))]))⟩
    rw [if_neg (fun z => z.elim (fun z => z w) (if0 q))]
/-- a name that is read -/
theorem c336r (xs : List Int32) (d : Nat) {J : JV} (hO : JO J) {D : Nat → Prop} {σ : RS} {m : yM} (h : RJ J D σ m) (h0 : 0 < σ.1.length) (hd : dsB σ) (hAD : allD σ) {A : List Nat} {n p : Nat} (hp : p < J.2.2.1.length) (hj : ∃ j : Nat, (kids J.2.2.1 p)[j]? = some n) (kp : ¬ kK J.2.2.1 p = 5 ∧ ¬ kK J.2.2.1 p = 33 ∧ kK J.2.2.1 p < 37) (hA : fPar A = p) (kσ : σ.2.2.1 p = nI (kK J.2.2.1 p)) (hvt : ¬ vtF J.2.2.1 n = 0) (k6 : kK J.2.2.1 n = 6) (kn : σ.2.2.1 n = 6) (hvn : σ.2.2.2.1 n = vF J.2.2.1 n) : yC (xg xs) (d + 4) 336 [.ref 58, .int (nI (J.2.2.2 n))] m (JQ J (fun i => D i ∨ i = n) m n (lkName σ A n)) := by
  have hJ := h
  obtain ⟨hT, hR, hD⟩ := h
  obtain ⟨hn, u65⟩ := hT.up hp hj
  have nx := hT.2.1 n hn
  have np := hT.2.1 p hp
  have hx := nx.2.2.2.2.1 hvt
  have ei := hT.c hn
  have xi := hT.x hn
  have f0 := hR.f0
  have n2 := hR.nV.2
  have e33 : ¬ nI (kK J.2.2.1 p) = 33 := fun q => kp.2.1 ((nI_eq (a := kK J.2.2.1 p) (b := 33) (by omega) (by omega)).mp q)
  have e5 : ¬ nI (kK J.2.2.1 p) = 5 := fun q => kp.1 ((nI_eq (a := kK J.2.2.1 p) (b := 5) (by omega) (by omega)).mp q)
  unfold lkName lkVar
  rw [hA, kσ, if_neg e33, if_neg e5, hvn]
  generalize hX : vF J.2.2.1 n = x at hx hvn
  generalize hY : m.1 64 (J.2.2.2 n) = y at hx
  refine w336_0 xs (d + 3) _ m _ ⟨xi, xi, ?_, ?_⟩
  · rw [ei, u65]; exact hT.x hp
  · rw [ei, u65, hT.c hp, np.2.1, hY]
    refine ⟨fun _ => ⟨fun z => absurd z e5, fun _ => ⟨xi, ?_⟩⟩, fun z => absurd z e33⟩
    have jk1 : JK m (y_si m 84 (J.2.2.2 n) (-1)) := (JK.re m).si (by omega)
    have hT1 := hT.k jk1
    have hR1 : RB J σ (y_si m 84 (J.2.2.2 n) (-1)) := hR.fr (fun a i h1 h2 => by rw [y_si_at, if_neg (by omega)]) (fun i hi => by rw [y_si_at, if_neg (by omega)])
    refine y_ci (c337 xs (d + 1) hO.1 hR1 h0 hd hx) (by omega) ⟨xi, xi, ?_⟩
    rw [y_si_same]
    generalize hm2 : y_si (y_si m 84 (J.2.2.2 n) (-1)) 85 (J.2.2.2 n) (fVar σ x) = m2
    have jk2 : JK m m2 := by rw [← hm2]; exact jk1.si (by omega)
    have hT2 := hT.k jk2
    have hR2 : RB J σ m2 := by rw [← hm2]; exact hR1.fr (fun a i h1 h2 => by rw [y_si_at, if_neg (by omega)]) (fun i hi => by rw [y_si_at, if_neg (by omega)])
    have f2 := hR2.f0
    have a85 : m2.1 85 (J.2.2.2 n) = fVar σ x := by rw [← hm2, y_si_same]
    rcases fVar_c σ x with e | ⟨v, v1, v2, v3⟩
    · rw [e, if_pos rfl]
      refine ⟨fun w => absurd rfl w, fun _ => w336_67 xs (d + 3) _ _ _ m2 _ (rl1 (by omega) hT2 hn f2 ?_)⟩
      have fe := FE.mk J m2 (show (0 : Int32) < 20 by decide) n
      exact ⟨fun _ => ⟨rfl, jk2.fl J 20 n, fe⟩, fun z => absurd z fe.ne⟩
    · have vo := hAD v v1
      obtain ⟨-, hv⟩ := hR2.d vo
      have sh := shp hv
      have xv : x_in (nI v) 4700 = true := x_in_nI (by omega) (by decide)
      have cv : (nI v).toNatClampNeg = v := nI_clamp (by omega)
      rw [v2, if_neg (nI_m1 (by omega)), cv]
      refine ⟨fun _ => w336_67 xs (d + 3) _ _ _ m2 _ (rl0 ⟨fun z => absurd f2 z, fun _ => ⟨xi, ?_, ?_⟩⟩), fun w => absurd w (nI_m1 (by omega))⟩
      · rw [ei, a85, v2]; exact xv
      · rw [ei, a85, v2, cv]
        refine ⟨fun w => w336_100 xs (d + 3) _ _ _ m2 _ (rl0 ⟨xi, ?_, xi, xi, ?_⟩), fun w => w336_100 xs (d + 3) _ _ _ m2 _ (rl1 (by omega) hT2 hn f2 ⟨xi, ?_, xi, xi, ?_⟩)⟩
        · rw [ei, a85, v2]; exact xv
        · have f8 : frm σ v = 8 := sh.1.mp w
          rw [if_pos f8, ei, a85, v2, cv, tyV_r hv (Or.inl f8)]
          have jk3 : JK m (y_si (y_si m2 84 (J.2.2.2 n) (tyV σ v)) 87 (J.2.2.2 n) (vp_nar .boolean 0)) := (jk2.si (by omega)).si (by omega)
          have ty : tyV (setV σ n (nI v)) v = tyV σ v := by
            unfold tyV frm vD setV
            dsimp only
            have tn := hv.2.2.2.1.2.1
            have ne : ¬ (vD σ v).2.1 = n := fun z => by rw [z, k6] at tn; omega
            rw [show upI σ.2.2.2.1 n (nI v) ((σ.2.1.getD v dVK).2.getD dVD).2.1 = σ.2.2.2.1 ((σ.2.1.getD v dVK).2.getD dVD).2.1 from upI_o _ _ ne]
          rw [ty]
          refine ⟨rfl, jk3, RJ.up hJ hn jk3 (fun a i h1 h2 => ?_) (fun a i h1 h2 h3 => ?_) (fun i hi => ?_) rfl rfl (fun i hi => ⟨rfl, upI_o _ _ hi, upI_o _ _ hi⟩) (by omega) (fun z => by omega) ?_⟩
          · rw [y_si_at, if_neg (by omega), y_si_at, if_neg (by omega), ← hm2, y_si_at, if_neg (by omega), y_si_at, if_neg (by omega)]
          · rw [y_si_at, if_neg (fun z => h3 z.2), y_si_at, if_neg (fun z => h3 z.2), ← hm2, y_si_at, if_neg (fun z => h3 z.2), y_si_at, if_neg (fun z => h3 z.2)]
          · rw [y_si_at, if_neg (by omega), y_si_at, if_neg (by omega), ← hm2, y_si_at, if_neg (by omega), y_si_at, if_neg (by omega)]
          · have nc : ¬ cnP (setT (setV σ n (nI v)) n (tyV σ v)) n := by
              unfold cnP setT setV
              dsimp only
              rw [kn]
              decide
            refine ⟨fun _ => ⟨?_, ?_, fun z => absurd z nc⟩, fun _ => ?_, fun z => by omega, fun z => by omega⟩
            · rw [y_si_at, if_neg (by omega), y_si_same]; exact (upI_n _ _ _).symm
            · rw [y_si_same, if_neg nc]; rfl
            · rw [y_si_at, if_neg (by omega), y_si_at, if_neg (by omega), a85, v2]; exact (upI_n _ _ _).symm
        · have fl85 : (flM2 J m2 21 n).1 85 (J.2.2.2 n) = nI v := by unfold flM2; rw [y_si_at, if_neg (by omega), y_si_at, if_neg (by omega), a85, v2]
          rw [ei, fl85]; exact xv
        · have nf : ¬ frm σ v = 8 := fun z => w (sh.1.mpr z)
          rw [if_neg nf]
          have fe := FE.mk J m2 (show (0 : Int32) < 21 by decide) n
          refine ⟨rfl, ((jk2.fl J 21 n).si (by omega)).si (by omega), ?_, fe.2.1, ?_⟩
          · rw [y_si_at, if_neg (by omega), y_si_at, if_neg (by omega)]; exact fe.1
          · rw [y_si_at, if_neg (by omega), y_si_at, if_neg (by omega)]; exact fe.2.2
