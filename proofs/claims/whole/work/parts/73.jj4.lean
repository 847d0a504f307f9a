/-! THE REFERENCE'S RULES: a declaration -/
def flo (J : JV) (m : yM) (n : Nat) (c : Option Int32) : yM := match c with
  | none => m
  | some x => flM2 J m x n
def orF (c : Option Int32) (b : Bool) (f : Int32) : Option Int32 := match c with
  | some x => some x
  | none => if b = true then some f else none
theorem flo_at (J : JV) (m : yM) (n : Nat) (c : Option Int32) (a i : Nat) (h : ¬ a = 58) : (flo J m n c).1 a i = m.1 a i := by
  cases c
  · rfl
  · show (flM2 J m _ n).1 a i = _
    unfold flM2
    rw [y_si_at, if_neg (by omega), y_si_at, if_neg (by omega)]
theorem JK.fo {m m' : yM} (J : JV) (h : JK m m') (n : Nat) (c : Option Int32) : JK m (flo J m' n c) := by
  cases c
  · exact h
  · exact h.fl J _ n
theorem rlo {xs : List Int32} {D : Nat} (hD : 1 ≤ D) {J : JV} {m : yM} {f : Int32} {n : Nat} {K : yM → Prop} (hT : JT J m) (hn : n < J.2.2.1.length) (h3 : m.1 58 3 = 0) (c : Option Int32) (hc : ∀ x, c = some x → 0 < x) (b : Bool) {u : Int32} (hu : u = if b = true then 1 else 0) (h : K (flo J m n (orF c b f))) : yC (xg xs) D 323 [.ref 58, .int f, .int u, .int (nI (J.2.2.2 n))] (flo J m n c) (fun r m' => r = none ∧ K m') := by
  cases c with
  | none =>
    cases b
    · subst hu; exact rl0 h
    · subst hu; exact rl1 hD hT hn h3 h
  | some x => exact rl2 hD (hT.i hn) (by rw [hu]; split <;> simp) (FE.mk J m (hc x rfl) n).ne h
theorem orF_p {c : Option Int32} {b : Bool} {f : Int32} (hc : ∀ x, c = some x → 0 < x) (hf : 0 < f) : ∀ x, orF c b f = some x → 0 < x := by
  intro x e
  cases c with
  | none =>
    unfold orF at e
    dsimp only at e
    split at e
    · exact Option.some.inj e ▸ hf
    · cases e
  | some y => exact hc x e
/-- a declaration's parts: names, a place, a type, a constant -/
def dcK (J : JV) (σ : RS) (n k e t : Nat) (l4 at_ l6 : Int32) : Prop :=
  (∀ i, i < k → (kids J.2.2.1 n)[i]? = some (n + 1 + i) ∧ kK J.2.2.1 (n + 1 + i) = 6) ∧ (kids J.2.2.1 n)[k]? = some (n + 1 + k) ∧ ¬ kK J.2.2.1 (n + 1 + k) = 6 ∧ k ≤ 16400 ∧
  dcT0 J.2.2.1 σ n = n + 1 + k ∧ dcT J.2.2.1 σ n = t ∧ dcAt J.2.2.1 σ n = at_ ∧ (kids J.2.2.1 n)[e]? = some t ∧ tpQ J σ t ∧
  ((kK J.2.2.1 (n + 1 + k) = 7 ∧ e = k + 1 ∧ vtF J.2.2.1 (n + 1 + k) = 0 ∧ vF J.2.2.1 (n + 1 + k) = l4) ∨ (¬ kK J.2.2.1 (n + 1 + k) = 7 ∧ e = k ∧ t = n + 1 + k ∧ l4 = -1)) ∧ atQ σ l4 at_ ∧
  ((hasC J.2.2.1 σ n ∧ (kids J.2.2.1 n)[e + 1]? = some (t + szF J.2.2.1 t) ∧ CN J σ (t + szF J.2.2.1 t) ∧ l6 = nI (J.2.2.2 (t + szF J.2.2.1 t))) ∨ (¬ hasC J.2.2.1 σ n ∧ (kids J.2.2.1 n)[e + 1]? = none ∧ l6 = -1))
theorem pl256 : ∀ w, w < 6 → ∀ k, k < 256 → (3 ≤ w → k < 64) → (decide (768 ≤ nI (plC w k)) = decide (3 ≤ w)) := by decide +kernel
abbrev p43 (F : List ND) (σ : RS) (A : List Nat) (n : Nat) : Prop := ¬ σ.2.2.2.1 (fPar A) = 0 ∧ ¬ σ.2.2.1 (dcT F σ n) = 8
abbrev p15 (F : List ND) (σ : RS) (n : Nat) : Prop := ¬ dcAt F σ n = -1 ∧ ¬ fpP σ (dcT F σ n) (dcAt F σ n)
abbrev p18 (F : List ND) (σ : RS) (n : Nat) : Prop := hasC F σ n ∧ (rdP (dcAt F σ n) ∨ ¬ mbP σ (dcT F σ n) (dcT F σ n + szF F (dcT F σ n)))
theorem c332 (xs : List Int32) (d : Nat) {J : JV} (hO : JO J) {D : Nat → Prop} {σ : RS} {m : yM} (h : RJ J D σ m) (h0 : 0 < σ.1.length) (hd : dsN σ) {A : List Nat} {n k e t : Nat} {l4 at_ l6 : Int32} (hn : n < J.2.2.1.length) (hp : fPar A < J.2.2.1.length) (hj : ∃ j : Nat, (kids J.2.2.1 (fPar A))[j]? = some n) (vp : vtF J.2.2.1 (fPar A) = 0) (ep : σ.2.2.2.1 (fPar A) = vF J.2.2.1 (fPar A)) (hK : dcK J σ n k e t l4 at_ l6) (hk : k ≤ σ.2.1.length) (hz : ∃ z, szT σ t = nI z ∧ z ≤ 40000) (h81 : ∀ u, σ.2.1.length - k ≤ u → u < σ.2.1.length → m.1 81 u = vF J.2.2.1 (fPar A) ∧ m.1 79 u = 1) (hc : ∃ c, (curB σ).2.2.2.1 = nI c ∧ c ≤ 4096 ∧ (inB σ 3 → 960 ≤ c)) : yC (xg xs) (d + 6) 332 [.ref 58, .int (nI (J.2.2.2 n))] m (JQ J D m n (lkDcl J.2.2.1 σ A n)) := by
  obtain ⟨hnm, hk1, hk6, hk16, eT0, eT, eAt, hKe, hTp, hpl, hat, hcc⟩ := hK
  have hT := h.1
  have hR := h.2.1
  have f0 := hR.f0
  obtain ⟨b1, b2⟩ := hR.nB
  obtain ⟨v1, v2⟩ := hR.nV
  have hT'0 := hTp
  obtain ⟨t1, t2, t3, t8, t9, t10⟩ := hTp
  have xi := hT.x hn
  have ei := hT.c hn
  have xt := hT.x t1
  have ct := hT.c t1
  have up := (hT.up hp hj).2
  have cp := hT.c hp
  have xp := hT.x hp
  have pv : m.1 64 (J.2.2.2 (fPar A)) = σ.2.2.2.1 (fPar A) := by rw [(hT.2.1 _ hp).2.2.2.1 vp, ep]
  have n62 := (hT.2.1 t t1).2.1
  have l7k : (l7T J t = 0 ↔ σ.2.2.1 t = 8) ∧ (l7T J t = 2 ↔ σ.2.2.1 t = 10) := by
    unfold l7T
    rcases t3 with y | y | y
    · rw [if_pos y, t2, y]; decide
    · rw [if_neg (by omega), if_pos y, t2, y]; decide
    · rw [if_neg (by omega), if_neg (by omega), t2, y]; decide
  have l8k : ¬ σ.2.2.1 t = 10 → l8T J t = smT σ t := by
    intro n10
    unfold l8T smT
    rcases t3 with y | y | y
    · rw [if_pos y, if_neg (by rw [t2, y]; decide), (t8 y).2]
    · rw [if_neg (by omega), if_pos y, if_pos (by rw [t2, y]; rfl), (t9 y).2.2.2.2.2.1]
    · rw [t2, y] at n10; exact absurd rfl n10
  -- the loop, and behind it
  have s355 : ∀ c : Option Int32, (∀ x, c = some x → 0 < x) → yP (xg xs) (d + 6) 332 355 [(0, .ref 58), (1, .int (nI (J.2.2.2 n))), (2, .int (nI k)), (4, .int l4), (5, .int (nI (J.2.2.2 t))), (6, .int l6), (7, .int (l7T J t)), (8, .int (l8T J t))] [] (flo J m n c) (JQ J D m n (match c with | some x => .inr x | none => if ¬ (curB (dcS J.2.2.1 σ A n)).2.2.2.1 ≤ 4096 then .inr 19 else .inl (dcS J.2.2.1 σ A n))) := by
    intro c hcp
    cases c with
    | some x =>
      have fe := FE.mk J m (hcp x rfl) n
      exact w332_355 xs (d + 5) _ _ _ _ _ _ _ _ _ ⟨fun y => absurd y fe.nle, fun _ => ⟨rfl, (JK.re m).fl J x n, fe⟩⟩
    | none =>
      refine w332_355 xs (d + 5) _ _ _ _ _ _ _ m _ ⟨fun _ => ?_, fun y => absurd (by rw [f0]; decide) y⟩
      rw [v1, nI_sub hk]
      have eS : dcS J.2.2.1 σ A n = dsL at_ t (vF J.2.2.1 (fPar A)) (dcIni J.2.2.1 σ n) k (σ.2.1.length - k) σ := by
        unfold dcS
        rw [eAt, eT, eT0, ep, show n + 1 + k - n - 1 = k by omega]
      have l6q : l6Q J σ l6 (dcIni J.2.2.1 σ n) := by
        unfold dcIni
        rcases hcc with ⟨y1, y2, y3, y4⟩ | ⟨y1, y2, y3⟩
        · rw [if_pos y1, eT]; exact Or.inr ⟨_, y4, y3, rfl⟩
        · rw [if_neg y1]; exact Or.inl ⟨y3, rfl⟩
      obtain ⟨c, c1, c2, c3⟩ := hc
      refine c332L xs (d + 1) hO k (σ.2.1.length - k) σ m (by omega) h h0 hT'0 hd hz l6q h81 ⟨c, c1, by omega, c3⟩ hat (fun m' jk r => ?_)
      rw [← eS] at r
      have hR' := r.2.1
      have hT1 := r.1
      obtain ⟨d1, d2, d3⟩ := dsL_len at_ t (vF J.2.2.1 (fPar A)) (dcIni J.2.2.1 σ n) k (σ.2.1.length - k) σ
      rw [← eS] at d1 d2
      have bb := hR'.b (show σ.1.length - 1 < (dcS J.2.2.1 σ A n).1.length by rw [d1]; omega)
      have n1' := hR'.nB.1
      have n2' := hR'.nV.1
      rw [d1] at n1'
      rw [d2] at n2'
      refine w332_371 xs (d + 5) _ _ _ _ _ _ _ m' _ ⟨fun _ => ⟨?_, ?_⟩, fun y => absurd ?_ y⟩
      · rw [n1', nI_m h0]; exact x_in_nI (by omega) (by decide)
      · rw [n1', nI_m h0, nI_clamp (by omega), bb.2.2.2.1]
        have ecur : ((dcS J.2.2.1 σ A n).1.getD (σ.1.length - 1) dBK).2.2.2.1 = (curB (dcS J.2.2.1 σ A n)).2.2.2.1 := by unfold curB; rw [d1]
        rw [ecur]
        refine ⟨fun y => ?_, fun y => ?_⟩
        · show yP _ _ _ _ _ _ _ (JQ J D m n (if ¬ _ then _ else _))
          rw [if_neg (fun z => z y)]
          exact w332_677 xs (d + 5) _ _ _ m' _ (rl0 ⟨rfl, jk, r⟩)
        · show yP _ _ _ _ _ _ _ (JQ J D m n (if ¬ _ then _ else _))
          rw [if_pos y]
          exact w332_677 xs (d + 5) _ _ _ m' _ (rl1 (by omega) hT1 hn hR'.f0 ⟨rfl, jk.fl J 19 n, FE.mk J m' (by decide) n⟩)
      · rw [n2']; exact nI_le (Nat.le_refl _) (by omega)
  obtain ⟨c2, hc2⟩ : ∃ c, c = orF (orF none (decide (p43 J.2.2.1 σ A n)) 43) (decide (p15 J.2.2.1 σ n)) 15 := ⟨_, rfl⟩
  have q1 : ∀ x, orF none (decide (p43 J.2.2.1 σ A n)) 43 = some x → 0 < x := orF_p (fun x y => by cases y) (by decide)
  have q2 : ∀ x, c2 = some x → 0 < x := by rw [hc2]; exact orF_p q1 (by decide)
  have q3 : ∀ x, orF c2 (decide (p18 J.2.2.1 σ n)) 18 = some x → 0 < x := orF_p q2 (by decide)
  have s355' : yP (xg xs) (d + 6) 332 355 [(0, .ref 58), (1, .int (nI (J.2.2.2 n))), (2, .int (nI k)), (4, .int l4), (5, .int (nI (J.2.2.2 t))), (6, .int l6), (7, .int (l7T J t)), (8, .int (l8T J t))] [] (flo J m n (orF c2 (decide (p18 J.2.2.1 σ n)) 18)) (JQ J D m n (lkDcl J.2.2.1 σ A n)) := by
    have := s355 _ q3
    have eR : lkDcl J.2.2.1 σ A n = (match orF c2 (decide (p18 J.2.2.1 σ n)) 18 with | some x => .inr x | none => if ¬ (curB (dcS J.2.2.1 σ A n)).2.2.2.1 ≤ 4096 then .inr 19 else .inl (dcS J.2.2.1 σ A n)) := by
      unfold lkDcl
      rw [hc2]
      by_cases a : p43 J.2.2.1 σ A n
      · rw [if_pos a, decide_eq_true a]; rfl
      · rw [if_neg a, decide_eq_false a]
        by_cases b : p15 J.2.2.1 σ n
        · rw [if_pos b, decide_eq_true b]; rfl
        · rw [if_neg b, decide_eq_false b]
          by_cases c : p18 J.2.2.1 σ n
          · rw [if_pos c, decide_eq_true c]; rfl
          · rw [if_neg c, decide_eq_false c]; rfl
    rw [eR]
    exact this
  have s351 : ∀ u : Int32, u = (if decide (p18 J.2.2.1 σ n) = true then 1 else 0) → yP (xg xs) (d + 6) 332 351 [(0, .ref 58), (1, .int (nI (J.2.2.2 n))), (2, .int (nI k)), (4, .int l4), (5, .int (nI (J.2.2.2 t))), (6, .int l6), (7, .int (l7T J t)), (8, .int (l8T J t))] [.int u, .int (18 : Int32), .ref 58] (flo J m n c2) (JQ J D m n (lkDcl J.2.2.1 σ A n)) := fun u hu => w332_351 xs (d + 5) _ _ _ _ _ _ _ _ _ _ _ (rlo (by omega) hT hn f0 c2 q2 (decide (p18 J.2.2.1 σ n)) hu s355')
  have s346 : p18 J.2.2.1 σ n → yP (xg xs) (d + 6) 332 346 [(0, .ref 58), (1, .int (nI (J.2.2.2 n))), (2, .int (nI k)), (4, .int l4), (5, .int (nI (J.2.2.2 t))), (6, .int l6), (7, .int (l7T J t)), (8, .int (l8T J t))] [.int (18 : Int32), .ref 58] (flo J m n c2) (JQ J D m n (lkDcl J.2.2.1 σ A n)) := fun y => w332_346 xs (d + 5) _ _ _ _ _ _ _ _ _ _ (s351 1 (by rw [decide_eq_true y]; rfl))
  have s350 : ¬ p18 J.2.2.1 σ n → yP (xg xs) (d + 6) 332 350 [(0, .ref 58), (1, .int (nI (J.2.2.2 n))), (2, .int (nI k)), (4, .int l4), (5, .int (nI (J.2.2.2 t))), (6, .int l6), (7, .int (l7T J t)), (8, .int (l8T J t))] [.int (18 : Int32), .ref 58] (flo J m n c2) (JQ J D m n (lkDcl J.2.2.1 σ A n)) := fun y => w332_350 xs (d + 5) _ _ _ _ _ _ _ _ _ _ (s351 0 (by rw [decide_eq_false y]; rfl))
  have s232 : ∀ u : Int32, u = (if decide (p15 J.2.2.1 σ n) = true then 1 else 0) → yP (xg xs) (d + 6) 332 232 [(0, .ref 58), (1, .int (nI (J.2.2.2 n))), (2, .int (nI k)), (4, .int l4), (5, .int (nI (J.2.2.2 t))), (6, .int l6), (7, .int (l7T J t)), (8, .int (l8T J t))] [.int u, .int (15 : Int32), .ref 58] (flo J m n (orF none (decide (p43 J.2.2.1 σ A n)) 43)) (JQ J D m n (lkDcl J.2.2.1 σ A n)) := by
    intro u hu
    refine w332_232 xs (d + 5) _ _ _ _ _ _ _ _ _ _ _ (rlo (by omega) hT hn f0 _ q1 (decide (p15 J.2.2.1 σ n)) hu ?_)
    rw [← hc2]
    rcases hcc with ⟨y1, y2, y3, y4⟩ | ⟨y1, y2, y3⟩
    · have n6 : ¬ l6 = -1 := by rw [y4]; exact nI_m1 (by have := hT.i y3.1; omega)
      have x6 : x_in l6 20000 = true := by rw [y4]; exact hT.x y3.1
      have c6 : l6.toNatClampNeg = J.2.2.2 (t + szF J.2.2.1 t) := by rw [y4]; exact hT.c y3.1
      obtain ⟨v64, v62⟩ := y3.v hT
      refine ⟨fun y => absurd y n6, fun _ => ⟨x6, ?_⟩⟩
      rw [c6, flo_at _ _ _ _ _ _ (by decide), v62]
      -- the constant and the type
      have p18i : p18 J.2.2.1 σ n ↔ (rdP at_ ∨ ¬ mbP σ t (t + szF J.2.2.1 t)) := by
        unfold p18
        rw [eAt, eT]
        exact ⟨fun y => y.2, fun y => ⟨y1, y⟩⟩
      generalize hcn : t + szF J.2.2.1 t = cn at *
      have s332 : ∀ l10 : Int32, (l10 = 0 ↔ (¬ σ.2.2.2.1 cn < -32768 ∧ ¬ 32767 < σ.2.2.2.1 cn)) → ∀ l9 : Int32, l9 = (if σ.2.2.1 cn = 31 then 1 else 0) → ¬ σ.2.2.1 t = 10 → ¬ rdP at_ → yP (xg xs) (d + 6) 332 320 [(0, .ref 58), (1, .int (nI (J.2.2.2 n))), (2, .int (nI k)), (4, .int l4), (5, .int (nI (J.2.2.2 t))), (6, .int l6), (7, .int (l7T J t)), (8, .int (l8T J t)), (9, .int l9), (10, .int l10)] [.int (18 : Int32), .ref 58] (flo J m n c2) (JQ J D m n (lkDcl J.2.2.1 σ A n)) := by
        intro l10 h10 l9 h9 n10 nr
        have e8 := l8k n10
        have mb : mbP σ t cn ↔ (if σ.2.2.1 cn = 31 ∨ smT σ t = 0 then (σ.2.2.1 cn = 31 ∧ smT σ t = 0) else rgP (σ.2.2.2.1 cn) (smT σ t)) := ⟨fun y => y.2, fun y => ⟨n10, y⟩⟩
        have p18i : p18 J.2.2.1 σ n ↔ ¬ mbP σ t cn := p18i.trans ⟨fun y => y.resolve_left nr, Or.inr⟩
        rw [e8]
        rw [e8] at s346 s350
        generalize smT σ t = T at *
        have go : ∀ s3 : Int32, s3 = (if T = 0 then 1 else 0) → yP (xg xs) (d + 6) 332 332 [(0, .ref 58), (1, .int (nI (J.2.2.2 n))), (2, .int (nI k)), (4, .int l4), (5, .int (nI (J.2.2.2 t))), (6, .int l6), (7, .int (l7T J t)), (8, .int T), (10, .int l10)] [.int s3, .int l9, .int (18 : Int32), .ref 58] (flo J m n c2) (JQ J D m n (lkDcl J.2.2.1 σ A n)) := by
          intro s3 h3
          refine w332_332 xs (d + 5) _ _ _ _ _ _ _ _ _ _ _ _ _ ⟨fun y => s346 (p18i.mpr ?_), fun y => ?_⟩
          · rw [mb]
            by_cases a : σ.2.2.1 cn = 31
            · by_cases b : T = 0
              · rw [if_pos a] at h9; rw [if_pos b] at h3; exact absurd (h9.trans h3.symm) y
              · rw [if_pos (Or.inl a)]; exact fun z => b z.2
            · by_cases b : T = 0
              · rw [if_pos (Or.inr b)]; exact fun z => a z.1
              · rw [if_neg a] at h9; rw [if_neg b] at h3; exact absurd (h9.trans h3.symm) y
          · have both : (σ.2.2.1 cn = 31 ↔ T = 0) := by
              by_cases a : σ.2.2.1 cn = 31
              · by_cases b : T = 0
                · exact ⟨fun _ => b, fun _ => a⟩
                · rw [if_pos a] at h9; rw [if_neg b] at h3; rw [h9, h3] at y; exact absurd y (by decide)
              · by_cases b : T = 0
                · rw [if_neg a] at h9; rw [if_pos b] at h3; rw [h9, h3] at y; exact absurd y (by decide)
                · exact ⟨fun z => absurd z a, fun z => absurd z b⟩
            have mb' : mbP σ t cn ↔ (T = 0 ∨ rgP (σ.2.2.2.1 cn) T) := by
              rw [mb]
              by_cases b : T = 0
              · rw [if_pos (Or.inr b)]; exact ⟨fun _ => Or.inl b, fun _ => ⟨both.mpr b, b⟩⟩
              · rw [if_neg (fun z => z.elim (fun z => b (both.mp z)) b)]; exact ⟨Or.inr, fun z => z.resolve_left b⟩
            refine ⟨fun t1 => s350 (fun z => p18i.mp z (mb'.mpr (Or.inr (Or.inl t1)))), fun t1 => ⟨fun z0 => s350 (fun z => p18i.mp z (mb'.mpr (Or.inr (Or.inr (h10.mp z0))))), fun z0 => s346 (p18i.mpr (fun z => ?_))⟩⟩
            rcases mb'.mp z with z | z | z
            · rw [t1] at z; exact absurd z (by decide)
            · exact z t1
            · exact z0 (h10.mpr z)
        refine w332_320 xs (d + 5) _ _ _ _ _ _ _ _ _ _ _ _ ⟨fun y => go 0 (by rw [if_neg y]), fun y => go 1 (by rw [if_pos y])⟩
      have s292 : ∀ l10 : Int32, (l10 = 0 ↔ (¬ σ.2.2.2.1 cn < -32768 ∧ ¬ 32767 < σ.2.2.2.1 cn)) → ∀ l9 : Int32, l9 = (if σ.2.2.1 cn = 31 then 1 else 0) → yP (xg xs) (d + 6) 332 292 [(0, .ref 58), (1, .int (nI (J.2.2.2 n))), (2, .int (nI k)), (4, .int l4), (5, .int (nI (J.2.2.2 t))), (6, .int l6), (7, .int (l7T J t)), (8, .int (l8T J t)), (9, .int l9)] [.int l10] (flo J m n c2) (JQ J D m n (lkDcl J.2.2.1 σ A n)) := by
        intro l10 h10 l9 h9
        refine w332_292 xs (d + 5) _ _ _ _ _ _ _ _ _ _ _ ⟨fun y => s346 (p18i.mpr (Or.inr (fun z => z.1 (l7k.2.mp y)))), fun y => ?_⟩
        have n10 : ¬ σ.2.2.1 t = 10 := fun z => y (l7k.2.mpr z)
        rcases hat with ⟨a, b⟩ | ⟨w, k', x1, x2, x3, x4, x5, x6⟩
        · refine ⟨fun _ => s332 l10 h10 l9 h9 n10 (by rw [b]; decide), fun z => absurd a z⟩
        · have pr := plR w x1 k' x2 x3
          obtain ⟨pd1, pd2⟩ := plD w x1 k' x2
          rw [x4]
          rw [x4] at s346 s332
          refine ⟨fun z => absurd z pd2, fun _ => ⟨by decide, by decide, fun z => s346 (p18i.mpr (Or.inl ?_)), fun z => s332 l10 h10 l9 h9 n10 ?_⟩⟩
          · rw [x5]; exact pr.mpr (pd1.mp z)
          · rw [x5]; exact fun v => z (pd1.mpr (pr.mp v))
      have s259 : ∀ l9 : Int32, l9 = (if σ.2.2.1 cn = 31 then 1 else 0) → yP (xg xs) (d + 6) 332 259 [(0, .ref 58), (1, .int (nI (J.2.2.2 n))), (2, .int (nI k)), (4, .int l4), (5, .int (nI (J.2.2.2 t))), (6, .int l6), (7, .int (l7T J t)), (8, .int (l8T J t))] [.int l9] (flo J m n c2) (JQ J D m n (lkDcl J.2.2.1 σ A n)) := by
        intro l9 h9
        refine w332_259 xs (d + 5) _ _ _ _ _ _ _ _ _ _ ⟨x6, ?_⟩
        rw [c6, flo_at _ _ _ _ _ _ (by decide), v64]
        have hi := fun (z : ¬ (¬ σ.2.2.2.1 cn < -32768 ∧ ¬ 32767 < σ.2.2.2.1 cn)) => w332_287 xs (d + 5) _ _ _ _ _ _ _ _ _ _ (s292 1 ⟨fun v => absurd v (by decide), fun v => absurd v z⟩ l9 h9)
        exact ⟨fun z => hi (fun v => v.1 z), fun z => ⟨x6, fun z2 => s292 0 ⟨fun _ => ⟨z, Int32.not_lt.mpr z2⟩, fun _ => rfl⟩ l9 h9, fun z2 => hi (fun v => v.2 (Int32.not_le.mp z2))⟩⟩
      exact ⟨fun z => s259 0 (by rw [if_neg z]), fun z => s259 1 (by rw [if_pos z])⟩
    · refine ⟨fun _ => ?_, fun y => absurd y3 y⟩
      have : ¬ p18 J.2.2.1 σ n := fun z => y1 z.1
      have eo : orF c2 (decide (p18 J.2.2.1 σ n)) 18 = c2 := by
        rw [decide_eq_false this]
        cases c2 <;> rfl
      rw [eo] at s355'
      exact s355'
  -- the place and the type
  have s189 : ∀ u : Int32, u = (if decide (p43 J.2.2.1 σ A n) = true then 1 else 0) → yP (xg xs) (d + 6) 332 189 [(0, .ref 58), (1, .int (nI (J.2.2.2 n))), (2, .int (nI k)), (4, .int l4), (5, .int (nI (J.2.2.2 t))), (6, .int l6), (7, .int (l7T J t)), (8, .int (l8T J t))] [.int u, .int (43 : Int32), .ref 58] m (JQ J D m n (lkDcl J.2.2.1 σ A n)) := by
    intro u hu
    refine w332_189 xs (d + 5) _ _ _ _ _ _ _ _ _ m _ (rlo (c := none) (by omega) hT hn f0 (fun x y => by cases y) (decide (p43 J.2.2.1 σ A n)) hu ?_)
    have p15i : p15 J.2.2.1 σ n ↔ (¬ at_ = -1 ∧ ¬ fpP σ t at_) := by
      unfold p15
      rw [eAt, eT]
    have s227 : p15 J.2.2.1 σ n → yP (xg xs) (d + 6) 332 227 [(0, .ref 58), (1, .int (nI (J.2.2.2 n))), (2, .int (nI k)), (4, .int l4), (5, .int (nI (J.2.2.2 t))), (6, .int l6), (7, .int (l7T J t)), (8, .int (l8T J t))] [.int (15 : Int32), .ref 58] (flo J m n (orF none (decide (p43 J.2.2.1 σ A n)) 43)) (JQ J D m n (lkDcl J.2.2.1 σ A n)) := fun y => w332_227 xs (d + 5) _ _ _ _ _ _ _ _ _ _ (s232 1 (by rw [decide_eq_true y]; rfl))
    have s231 : ¬ p15 J.2.2.1 σ n → yP (xg xs) (d + 6) 332 231 [(0, .ref 58), (1, .int (nI (J.2.2.2 n))), (2, .int (nI k)), (4, .int l4), (5, .int (nI (J.2.2.2 t))), (6, .int l6), (7, .int (l7T J t)), (8, .int (l8T J t))] [.int (15 : Int32), .ref 58] (flo J m n (orF none (decide (p43 J.2.2.1 σ A n)) 43)) (JQ J D m n (lkDcl J.2.2.1 σ A n)) := fun y => w332_231 xs (d + 5) _ _ _ _ _ _ _ _ _ _ (s232 0 (by rw [decide_eq_false y]; rfl))
    rcases hat with ⟨a, b⟩ | ⟨w, k', x1, x2, x3, x4, x5, x6⟩
    · exact ⟨fun _ => s231 (fun z => (p15i.mp z).1 b), fun z => absurd a z⟩
    · have w1 : plC w k' < 2 ^ 31 := by unfold plC; split <;> omega
      have na : ¬ at_ = -1 := by rw [x5]; exact nI_m1 w1
      have nl : ¬ l4 = -1 := by rw [x4]; exact nI_m1 (by omega)
      refine ⟨fun z => absurd z nl, fun _ => ⟨fun z => s227 (p15i.mpr ⟨na, fun v => z (l7k.1.mpr v.1)⟩), fun z => ⟨by decide, ?_⟩⟩⟩
      have k8 := l7k.1.mp z
      have e8 : l8T J t = σ.2.2.2.1 t := by
        rw [l8k (by rw [k8]; decide)]
        unfold smT
        rw [if_neg (by rw [k8]; decide)]
      have pp := (pl335 w x1 k' x2).1
      have p7 : (768 ≤ at_) ↔ 3 ≤ w := by rw [x5]; exact decide_eq_decide.mp (pl256 w x1 k' x2 x3)
      have go : ∀ s3 : Int32, s3 = (if 768 ≤ at_ then 1 else 0) → yP (xg xs) (d + 6) 332 224 [(0, .ref 58), (1, .int (nI (J.2.2.2 n))), (2, .int (nI k)), (4, .int l4), (5, .int (nI (J.2.2.2 t))), (6, .int l6), (7, .int (l7T J t)), (8, .int (l8T J t))] [.int s3, .int (l8T J t), .int (15 : Int32), .ref 58] (flo J m n (orF none (decide (p43 J.2.2.1 σ A n)) 43)) (JQ J D m n (lkDcl J.2.2.1 σ A n)) := by
        intro s3 h3
        refine w332_224 xs (d + 5) _ _ _ _ _ _ _ _ _ _ _ _ ⟨fun v => s231 (fun q => (p15i.mp q).2 ⟨k8, by rw [← e8, v, h3]⟩), fun v => s227 (p15i.mpr ⟨na, fun q => v (by rw [e8, q.2, h3])⟩)⟩
      rw [x4]
      rw [x4] at go
      refine ⟨fun v => go 1 (by rw [if_pos (p7.mpr (pp.mp v))]), fun v => go 0 (by rw [if_neg (fun q => v (pp.mpr (p7.mp q)))])⟩
  have s160 : yP (xg xs) (d + 6) 332 160 [(0, .ref 58), (1, .int (nI (J.2.2.2 n))), (2, .int (nI k)), (4, .int l4), (5, .int (nI (J.2.2.2 t))), (6, .int l6), (7, .int (l7T J t))] [.int (l8T J t)] m (JQ J D m n (lkDcl J.2.2.1 σ A n)) := by
    have p43i : p43 J.2.2.1 σ A n ↔ (¬ σ.2.2.2.1 (fPar A) = 0 ∧ ¬ σ.2.2.1 t = 8) := by unfold p43; rw [eT]
    have s188 : ¬ p43 J.2.2.1 σ A n → yP (xg xs) (d + 6) 332 188 [(0, .ref 58), (1, .int (nI (J.2.2.2 n))), (2, .int (nI k)), (4, .int l4), (5, .int (nI (J.2.2.2 t))), (6, .int l6), (7, .int (l7T J t)), (8, .int (l8T J t))] [.int (43 : Int32), .ref 58] m (JQ J D m n (lkDcl J.2.2.1 σ A n)) := fun y => w332_188 xs (d + 5) _ _ _ _ _ _ _ _ m _ (s189 0 (by rw [decide_eq_false y]; rfl))
    refine w332_160 xs (d + 5) _ _ _ _ _ _ _ m _ ⟨xi, ?_⟩
    rw [ei, up, cp, pv]
    exact ⟨xp, fun z => s188 (fun v => (p43i.mp v).1 z), fun z => ⟨fun z2 => s188 (fun v => (p43i.mp v).2 (l7k.1.mp z2)), fun z2 => s189 1 (by rw [decide_eq_true (p43i.mpr ⟨z, fun v => z2 (l7k.1.mpr v)⟩)]; rfl)⟩⟩
  have s77 : yP (xg xs) (d + 6) 332 77 [(0, .ref 58), (1, .int (nI (J.2.2.2 n))), (2, .int (nI k)), (4, .int l4)] [.int (nI (J.2.2.2 t))] m (JQ J D m n (lkDcl J.2.2.1 σ A n)) := by
    have e68 : m.1 68 (J.2.2.2 t) = l6 := by
      rw [(hT.kc hn hKe).2.2]
      rcases hcc with ⟨y1, y2, y3, y4⟩ | ⟨y1, y2, y3⟩
      · rw [y2, y4]; rfl
      · rw [y2, y3]; rfl
    refine w332_77 xs (d + 5) _ _ _ _ m _ ⟨xt, xt, ?_⟩
    rw [ct, e68, n62]
    have s121 : yP (xg xs) (d + 6) 332 121 [(0, .ref 58), (1, .int (nI (J.2.2.2 n))), (2, .int (nI k)), (4, .int l4), (5, .int (nI (J.2.2.2 t))), (6, .int l6)] [.int (l7T J t)] m (JQ J D m n (lkDcl J.2.2.1 σ A n)) := by
      refine w332_121 xs (d + 5) _ _ _ _ _ _ m _ ?_
      rcases t3 with y | y | y
      · have e7 : l7T J t = 0 := by unfold l7T; rw [if_pos y]
        have e8 : l8T J t = vF J.2.2.1 t := by unfold l8T; rw [if_pos y]
        refine ⟨fun z => absurd e7 z, fun _ => ⟨xt, ?_⟩⟩
        rw [ct, (hT.2.1 t t1).2.2.2.1 (t8 y).1, ← e8]
        exact s160
      · have e7 : l7T J t = 1 := by unfold l7T; rw [if_neg (by omega), if_pos y]
        have e8 : l8T J t = vF J.2.2.1 (t + 3) := by unfold l8T; rw [if_neg (by omega), if_pos y]
        obtain ⟨kk, n1, n2, n3, n4, n5, n6⟩ := t9 y
        have f67 : m.1 67 (J.2.2.2 t) = nI (J.2.2.2 (t + 3)) := hT.ka t1 (by rw [kk]; rfl)
        refine ⟨fun _ => ⟨fun z => absurd e7 z, fun _ => ⟨xt, ?_⟩⟩, fun z => absurd (e7 ▸ z) (by decide)⟩
        rw [ct, f67, hT.c n3, (hT.2.1 _ n3).2.2.2.1 n4, ← e8]
        exact ⟨hT.x n3, s160⟩
      · have e7 : l7T J t = 2 := by unfold l7T; rw [if_neg (by omega), if_neg (by omega)]
        have e8 : l8T J t = -1 := by unfold l8T; rw [if_neg (by omega), if_neg (by omega)]
        rw [e8] at s160
        exact ⟨fun _ => ⟨fun _ => s160, fun z => absurd (e7 ▸ z) (by decide)⟩, fun z => absurd (e7 ▸ z) (by decide)⟩
    rcases t3 with y | y | y
    · have e7 : l7T J t = 0 := by unfold l7T; rw [if_pos y]
      rw [e7] at s121
      rw [y]
      exact ⟨fun z => absurd rfl z, fun _ => s121⟩
    · have e7 : l7T J t = 1 := by unfold l7T; rw [if_neg (by omega), if_pos y]
      rw [e7] at s121
      rw [y]
      exact ⟨fun _ => ⟨xt, fun z => absurd rfl z, fun _ => s121⟩, fun z => absurd z (by decide)⟩
    · have e7 : l7T J t = 2 := by unfold l7T; rw [if_neg (by omega), if_neg (by omega)]
      rw [e7] at s121
      rw [y]
      exact ⟨fun _ => ⟨xt, fun _ => s121, fun z => absurd z (by decide)⟩, fun z => absurd z (by decide)⟩
  -- the names
  obtain ⟨g1, g2, g3⟩ := hT.kc hn hk1
  have xg1 := hT.x g1
  have cg1 := hT.c g1
  have kk62 := (hT.2.1 _ g1).2.1
  have s9e : yP (xg xs) (d + 6) 332 9 [(0, .ref 58), (1, .int (nI (J.2.2.2 n))), (2, .int (nI k)), (3, .int (nI (J.2.2.2 (n + 1 + k))))] [] m (JQ J D m n (lkDcl J.2.2.1 σ A n)) := by
    refine w332_9 xs (d + 5) _ _ _ m _ ⟨xg1, ?_⟩
    rw [cg1, kk62]
    have kb : kK J.2.2.1 (n + 1 + k) < 2 ^ 31 := by
      rcases hpl with ⟨p1, -⟩ | ⟨-, -, p3, -⟩
      · omega
      · rw [← p3]; omega
    have n6 : ¬ nI (kK J.2.2.1 (n + 1 + k)) = 6 := fun z => hk6 ((nI_eq (b := 6) (by omega) (by omega)).mp z)
    refine ⟨fun _ => ⟨xg1, ?_⟩, fun z => absurd z n6⟩
    rcases hpl with ⟨p1, p2, p3, p4⟩ | ⟨p1, p2, p3, p4⟩
    · rw [p1]
      refine ⟨fun z => absurd rfl z, fun _ => ⟨xg1, ?_⟩⟩
      rw [(hT.2.1 _ g1).2.2.2.1 p3, p4]
      refine w332_54 xs (d + 5) _ _ _ _ m _ ⟨xg1, ?_⟩
      rw [cg1, kk62, p1]
      refine ⟨fun z => absurd rfl z, fun _ => ⟨xg1, ?_⟩⟩
      rw [p2] at hKe
      rw [g3, hKe]
      exact s77
    · have n7 : ¬ nI (kK J.2.2.1 (n + 1 + k)) = 7 := fun z => p1 ((nI_eq (b := 7) (by omega) (by omega)).mp z)
      refine ⟨fun _ => w332_54 xs (d + 5) _ _ _ _ m _ ⟨xg1, ?_⟩, fun z => absurd z n7⟩
      rw [cg1, kk62]
      refine ⟨fun _ => ?_, fun z => absurd z n7⟩
      rw [← p3, ← p4]
      exact s77
  have s9 : ∀ q i, i + q = k → yP (xg xs) (d + 6) 332 9 [(0, .ref 58), (1, .int (nI (J.2.2.2 n))), (2, .int (nI i)), (3, .int (nI (J.2.2.2 (n + 1 + i))))] [] m (JQ J D m n (lkDcl J.2.2.1 σ A n)) := by
    intro q
    induction q with
    | zero =>
      intro i hi
      have : i = k := by omega
      subst this
      exact s9e
    | succ q ih =>
      intro i hi
      obtain ⟨o1, o2⟩ := hnm i (by omega)
      obtain ⟨r1, r2, r3⟩ := hT.kc hn o1
      have nx : (kids J.2.2.1 n)[i + 1]? = some (n + 1 + (i + 1)) := by
        by_cases w : i + 1 < k
        · exact (hnm (i + 1) w).1
        · have : i + 1 = k := by omega
          rw [this]; exact hk1
      refine w332_9 xs (d + 5) _ _ _ m _ ⟨hT.x r1, ?_⟩
      rw [hT.c r1, (hT.2.1 _ r1).2.1, o2]
      refine ⟨fun z => absurd rfl z, fun _ => ⟨hT.x r1, ?_⟩⟩
      rw [r3, nx, nI_1]
      exact ih (i + 1) (by omega)
  have e0 : m.1 66 (J.2.2.2 n) = nI (J.2.2.2 (n + 1 + 0)) := by
    by_cases w : 0 < k
    · exact hT.k0 hn (hnm 0 w).1
    · have : k = 0 := by omega
      subst this
      exact hT.k0 hn hk1
  refine w332_0 xs (d + 5) _ m _ ⟨xi, ?_⟩
  rw [ei, e0]
  exact s9 k 0 (by omega)
