/-! MEASURE: loops lie one in another, of bodies and units -/
def pv (D : List IT) : Prop := ∀ x, x ∈ D → x.2.2.2.2.1 = 0 ∧ ¬ x.1 = 10 ∧ ¬ x.1 = 11 ∧ ¬ x.1 = 13 ∧ ¬ x.1 = 14 ∧ ¬ x.1 = 15 ∧ ¬ x.1 = 16
theorem pv.app {D E : List IT} (h : pv D) (h2 : pv E) : pv (D ++ E) := fun x hx => (List.mem_append.mp hx).elim (h x) (h2 x)
theorem pv.nil : pv [] := fun x hx => by cases hx
theorem pv.i {o a b c : Int32} (h : ¬ o = 10 ∧ ¬ o = 11 ∧ ¬ o = 13 ∧ ¬ o = 14 ∧ ¬ o = 15 ∧ ¬ o = 16) : pv [j3 o a b c] := fun y hy => by rw [List.mem_singleton.mp hy]; exact ⟨rfl, h⟩
theorem pv.i1 {o a : Int32} (h : ¬ o = 10 ∧ ¬ o = 11 ∧ ¬ o = 13 ∧ ¬ o = 14 ∧ ¬ o = 15 ∧ ¬ o = 16) : pv [j1 o a] := fun y hy => by rw [List.mem_singleton.mp hy]; exact ⟨rfl, h⟩
theorem pv.j {U : Nat} {D : List IT} (h : pv D) : pj U D := fun x hx => by
  obtain ⟨a, b, c, d, e, f, g⟩ := h x hx
  exact ⟨a, b, c, d, e, fun z => z.elim (fun w => absurd w f) (fun w => absurd w g)⟩
theorem cnC_v (σ : RS) (n : Nat) : pv (cnC σ n) := by
  unfold cnC
  refine pv.app ?_ ((pv.i1 (by decide)).app (pv.app ?_ (pv.app ?_ ((pv.i1 (by decide)).app ?_))))
  · split
    · exact pv.i1 (by decide)
    · exact pv.nil
  · split
    · exact pv.i1 (by decide)
    · exact pv.nil
  · split
    · exact pv.nil
    · exact pv.i1 (by decide)
  · split
    · exact pv.nil
    · exact pv.app (D := [_]) (pv.i1 (by decide)) (pv.app (D := [_]) (pv.i1 (by decide)) (pv.i1 (by decide)))
theorem fdC_v (F : List ND) (R : List Nat) (pw : Int32) (row l : Nat) : pv [fdC F R pw row l] := by
  unfold fdC
  split
  · exact pv.i1 (by decide)
  · exact pv.i1 (by decide)
theorem coC_v (F : List ND) (σ : RS) (R : List Nat) (pw : Int32) (cols row n : Nat) : pv (coC F σ R pw cols row n) := by
  unfold coC
  refine pv.app ?_ ((fdC_v F R pw row cols).app (pv.app ?_ (pv.app ?_ (pv.i1 (by decide)))))
  · split
    · exact pv.nil
    · exact pv.i1 (by decide)
  · split
    · exact pv.i1 (by decide)
    · exact pv.nil
  · split
    · exact pv.nil
    · exact pv.i1 (by decide)
theorem gpR_v (F : List ND) (σ : RS) (R : List Nat) (pw : Int32) (l a : Nat) : ∀ k row fed, pv (gpR F σ R pw l a k row fed)
  | 0, row, fed => by
    unfold gpR
    split
    · exact pv.i1 (by decide)
    · exact pv.nil
  | k + 1, row, fed => by
    unfold gpR
    split
    · split
      · exact gpR_v F σ R pw l a k (row + 1) fed
      · refine (fdC_v F R pw row l).app (pv.app ?_ (pv.app ?_ (gpR_v F σ R pw l a k (row + 1) (fed + 1))))
        · split
          · exact cnC_v σ _
          · exact pv.nil
        · split
          · exact pv.nil
          · exact pv.i1 (by decide)
    · split
      · exact pv.i1 (by decide)
      · exact pv.nil
theorem gpL_v (F : List ND) (σ : RS) (R : List Nat) (pw : Int32) (cols l : Nat) : ∀ k row, pv (gpL F σ R pw cols l k row)
  | 0, row => pv.nil
  | k + 1, row => by
    unfold gpL
    refine pv.app ?_ (gpL_v F σ R pw cols l k (row + 1))
    split
    · exact (gpR_v F σ R pw l row _ _ _).app (pv.i1 (by decide))
    · exact pv.nil
theorem lnC_v (F : List ND) (σ : RS) (R : List Nat) (pw : Int32) (cols : Nat) : ∀ k l, pv (lnC F σ R pw cols k l)
  | 0, l => pv.nil
  | k + 1, l => (gpL_v F σ R pw cols l _ _).app (lnC_v F σ R pw cols k (l + 1))
theorem coL_v (F : List ND) (σ : RS) (R : List Nat) (pw : Int32) (cols : Nat) : ∀ k row, pv (coL F σ R pw cols k row)
  | 0, row => pv.nil
  | k + 1, row => by
    unfold coL
    refine pv.app ?_ (coL_v F σ R pw cols k (row + 1))
    split
    · exact coC_v F σ R pw cols row _
    · exact pv.nil
theorem laC_v (F : List ND) (σ : RS) (pw : Int32) : ∀ L, pv (laC F σ pw L)
  | [] => pv.nil
  | n :: L => ((lnC_v F σ _ pw _ _ _).app (coL_v F σ _ pw _ _ _)).app (laC_v F σ pw L)
theorem bgV_v (σ : RS) : ∀ k v, pv (bgV σ k v)
  | 0, v => pv.nil
  | k + 1, v => by
    unfold bgV
    refine pv.app ?_ (bgV_v σ k (v + 1))
    split
    · exact pv.app (D := [_]) (pv.i1 (by decide)) (pv.i1 (by decide))
    · exact pv.nil
theorem bgC_v (σ : RS) (b : Nat) : pv (bgC σ b) := by
  unfold bgC
  split
  · exact pv.app (pv.app (D := [_]) (pv.i1 (by decide)) (pv.i1 (by decide))) (bgV_v σ _ _)
  · exact pv.nil
theorem rgL_v (F : List ND) (σ : RS) (own : Int32) : ∀ (L : List Nat) (j : Nat), pv (rgL F σ own L j)
  | [], j => pv.nil
  | r :: L, j => by
    unfold rgL
    refine pv.app (pv.app (D := [_]) (pv.i1 (by decide)) (pv.i1 (by decide))) (pv.app ?_ (pv.app ?_ (rgL_v F σ own L (j + 1))))
    · split
      · exact pv.i1 (by decide)
      · exact pv.app (D := [_]) (pv.i1 (by decide)) (pv.app (D := [_]) (pv.i1 (by decide)) (pv.app (D := [_]) (pv.i1 (by decide)) (pv.app (D := [_]) (pv.i1 (by decide)) (pv.i1 (by decide)))))
    · split
      · exact pv.i1 (by decide)
      · exact pv.nil
/-- what is known of a unit's nodes: earlier units are called, loops end -/
def CKu (σ : RS) (U lo hi : Nat) : Prop := ∀ j, lo ≤ j → j < hi → (σ.2.2.1 j = 34 → ¬ σ.2.2.2.1 j < 10 → ∃ b, b < U ∧ σ.2.2.2.1 j - 10 = nI b) ∧ (σ.2.2.1 j = 13 → 9 ≤ σ.2.2.2.1 (vD σ (σ.2.2.2.1 j).toNatClampNeg).2.1 → ∃ b, b < U ∧ σ.2.2.2.1 (vD σ (σ.2.2.2.1 j).toNatClampNeg).2.1 - 9 = nI b) ∧ (σ.2.2.1 j = 19 → ∃ n, n ≤ 1000000 ∧ (tms σ j).toInt32 = nI n)
theorem cE_w {m0 : yM} {T : Nat} {F : List ND} {s : SU} (hS : HS m0 T F s) {U lo hi : Nat} (hC : CKu s.1 U lo hi) : ∀ (N n : Nat), TW m0 T F N n → lo ≤ n → n + szF F n ≤ hi → pj U (cE F s.1 N n) := by
  intro N
  induction N with
  | zero => intro n h; exact absurd h (fun z => z)
  | succ N ih =>
    intro n hW hlo hhi
    have at' := hW.at
    have hn : n < F.length := by omega
    have ih' : ∀ c, c ∈ kids F n → pj U (cE F s.1 N c) := fun c hc => by
      have z := hW.kin hc
      exact ih c (hW.2.2.2.2.2.2 c hc) (by omega) (by omega)
    have k37 := hW.k37
    have ok := hW.ok
    have kk : ∀ k, k < 30 ∨ 30 < k → k < 37 → s.1.2.2.1 n = nI k → kK F n = k := by
      intro k hk1 hk z
      rcases hS.ks hn with y | ⟨y, -⟩
      · rw [y] at z; exact (nI_eq (by omega) (by omega)).mp z
      · rw [y] at z
        have := (nI_eq (a := 30) (by omega) (by omega)).mp (show nI 30 = nI k from z)
        omega
    have cl : ∀ (f : Int32) (L : List Nat) (j : Nat), (∀ c, c ∈ L → c ∈ kids F n) → pj U (clA f (cE F s.1 N) L j) := by
      intro f L
      induction L with
      | nil => intro j _; exact pj.nil
      | cons c L ihL =>
        intro j hj
        show pj U (cE F s.1 N c ++ ((if f = 3 ∧ 1 ≤ j then [j1 7 (if j = 1 then 24 else 23)] else []) ++ clA f (cE F s.1 N) L (j + 1)))
        refine (ih' c (hj c List.mem_cons_self)).app (pj.app ?_ (ihL _ (fun x hx => hj x (List.mem_cons_of_mem _ hx))))
        split
        · exact (pv.i1 (by decide)).j
        · exact pj.nil
    have ow : ∀ (b f0 k : Nat), pj U (cOw s.1 b f0 k) := by
      intro b f0 k
      induction k with
      | zero => exact pj.nil
      | succ k ihk =>
        show pj U ((if (vD s.1 (f0 + k)).1 = 1 then [j3 6 (nI b) (vD s.1 (f0 + k)).2.2.2 0] else []) ++ cOw s.1 b f0 k)
        refine pj.app ?_ ihk
        split
        · exact (pv.i (by decide)).j
        · exact pj.nil
    unfold cE
    split
    · exact (pv.i1 (by decide)).j
    split
    · exact (pv.i1 (by decide)).j
    split
    · rename_i z
      have k := kk 32 (by omega) (by omega) z
      rw [k] at ok
      obtain ⟨-, a, ha, eks⟩ := ok
      obtain ⟨m1, -⟩ := hW.k1 eks
      exact (ih' _ (by rw [m1]; exact List.mem_cons_self)).app (pv.i (by decide)).j
    split
    · rename_i k34
      refine (cl _ _ _ (fun _ z => z)).app ?_
      unfold clZ
      split
      · split
        · exact (pv.i1 (by decide)).j
        split
        · exact pj.nil
        split
        · exact pj.nil
        · split
          · exact (pv.i1 (by decide)).j
          · exact (pv.i1 (by decide)).j
      · rename_i n10
        obtain ⟨b, b1, b2⟩ := (hC n hlo (by omega)).1 k34 n10
        refine (ow _ _ _).app (pj.app (C := [_]) (fun x hx => ?_) (pv.i (by decide)).j)
        rw [List.mem_singleton.mp hx]
        exact ⟨rfl, by show ¬ (16 : Int32) = 10; decide, by show ¬ (16 : Int32) = 11; decide, by show ¬ (16 : Int32) = 13; decide, by show ¬ (16 : Int32) = 14; decide, fun _ => ⟨b, b1, b2⟩⟩
    split
    · rename_i z
      have k := kk 35 (by omega) (by omega) z
      rw [k] at ok
      obtain ⟨-, -, a, b, ha, hb, eks⟩ := ok
      obtain ⟨m1, -⟩ := hW.k2 eks
      exact (ih' _ (by rw [m1]; exact List.mem_cons_self)).app ((ih' _ (by rw [m1]; exact List.mem_cons_of_mem _ List.mem_cons_self)).app (pv.i1 (by decide)).j)
    split
    · rename_i z
      have k := kk 36 (by omega) (by omega) z
      rw [k] at ok
      obtain ⟨-, -, a, ha, eks⟩ := ok
      obtain ⟨m1, -⟩ := hW.k1 eks
      exact (ih' _ (by rw [m1]; exact List.mem_cons_self)).app (pv.i1 (by decide)).j
    · exact (pv.i1 (by decide)).j
theorem LPz.csL {D : List IT} {U N : Nat} {out : Option Nat} {τ : Nat → Nat} {F : List ND} {σ : RS} {n E : Nat} {bd : Nat → Nat → List IT} (hE : E ≤ D.length) (ht : τ (mE n) = E) : ∀ (L : List Nat) (p : Nat), (∀ c, c ∈ L → (σ.2.2.1 c = 11 → ∀ p, SIt D p (bd c p) τ → LPz D U N out p (p + (bd c p).length)) ∧ (¬ σ.2.2.1 c = 11 → ∀ p, SIt D p (bd (lsK F c) p) τ → LPz D U N out p (p + (bd (lsK F c) p).length))) → SIt D p (wCs F σ n bd L p) τ → p + (wCs F σ n bd L p).length = E → LPz D U N out p E
  | [], p, _, _, hp => by
    have hp : p + 0 = E := hp
    rw [← hp]
    exact LPz.nil
  | c :: L, p, hb, hs, hp => by
    have hc := hb c List.mem_cons_self
    have hL := fun x hx => hb x (List.mem_cons_of_mem c hx)
    unfold wCs at hs hp
    by_cases q : σ.2.2.1 c = 11
    · rw [if_pos q] at hs hp
      rw [List.length_append] at hp
      exact (hc.1 q p hs.l).app (LPz.csL hE ht L _ hL hs.r (by omega)) hE
    · rw [if_neg q] at hs hp
      rw [List.length_append, List.length_append] at hp
      refine (LPz.plain _ p (rgL_v F σ _ _ _).j hs.l).app ?_ hE
      refine LPz.wyL hs.r.l hE (fun _ => ht) (hc.2 q _) ?_
      exact LPz.csL hE ht L _ hL hs.r.r (by omega)
theorem TW.inn {m0 : yM} {T : Nat} {F : List ND} : ∀ (N n : Nat), TW m0 T F N n → ∀ i, n ≤ i → i < n + szF F n → i + szF F i ≤ n + szF F n := by
  intro N
  induction N with
  | zero => intro n h; exact absurd h (fun z => z)
  | succ N ih =>
    intro n h i hi hi2
    obtain ⟨h1, h2, h3, h4, h5, h6, h7⟩ := h
    by_cases e : i = n
    · rw [e]
      exact Nat.le_refl _
    · have go : ∀ (L : List Nat) (a : Nat), tile F L a (n + szF F n) → (∀ c, c ∈ L → TW m0 T F N c) → a ≤ i → i + szF F i ≤ n + szF F n ∧ a ≤ n + szF F n := by
        intro L
        induction L with
        | nil => intro a ht _ ha; have ht : a = n + szF F n := ht; omega
        | cons c L ihL =>
          intro a ht hc ha
          obtain ⟨rfl, ht⟩ := ht
          rcases Nat.lt_or_ge i (c + szF F c) with y | y
          · have a1 := ih c (hc c List.mem_cons_self) i ha y
            have a2 := til_s L _ _ ht
            omega
          · have := ihL _ ht (fun x hx => hc x (List.mem_cons_of_mem _ hx)) y
            omega
      exact (go (kids F n) (n + 1) h6 h7 (by omega)).1
theorem TW.kd {m0 : yM} {T : Nat} {F : List ND} {N n : Nat} (h : TW m0 T F N n) : (F.getD n (0, 0, 0, 0, 1)).1 = nI (kK F n) := by
  cases N with
  | zero => exact absurd h (fun z => z)
  | succ N => exact h.2.2.1
theorem okc_15 {m0 : yM} {T : Nat} {v : Int32} {vt : Nat} {ks : List Nat} (h : okN m0 T 15 v vt ks) {x : Nat} (hx : x ∈ ks) : x = 11 ∨ exK x := by
  have := h.kid x hx
  have g : ∀ y, y ∈ kidK 15 → y = 11 ∨ exK y := by decide
  exact g x this
theorem wB_L {m0 : yM} {T : Nat} {J : JV} {s : SU} (hS : HS m0 T J.2.2.1 s) {U lo hi : Nat} (hC : CKu s.1 U lo hi) {D : List IT} (hD : D.length ≤ 3000) : ∀ (N ℓ n p M : Nat) (τ : Nat → Nat) (out : Option Nat), TW m0 T J.2.2.1 N n → lo ≤ n → n + szF J.2.2.1 n ≤ hi → DLc J.2.2.1 M n → SIt D p (wB J.2.2.1 s.1 N ℓ n p) τ → (out = some (τ (mX ℓ)) ∨ (¬ kK J.2.2.1 n = 19 ∧ gX J.2.2.1 n)) → LPz D U M out p (p + (wB J.2.2.1 s.1 N ℓ n p).length) := by
  intro N
  induction N with
  | zero => intro ℓ n p M τ out h; exact absurd h (fun z => z)
  | succ N ih =>
    intro ℓ n p M τ out hW hlo hhi hM hs hg
    refine LPz.seq (kids J.2.2.1 n) p (fun c hc p hs => ?_) hs (fun z => hs.le z)
    have z := hW.kin hc
    have hWc := hW.2.2.2.2.2.2 c hc
    have inn : ∀ c', c < c' → c' < c + szF J.2.2.1 c → TW m0 T J.2.2.1 N c' ∧ c' + szF J.2.2.1 c' ≤ c + szF J.2.2.1 c := fun c' q1 q2 => by
      obtain ⟨M', hM1, hM2⟩ := TW.all N c hWc c' (by omega) q2
      exact ⟨hM2.le hM1, TW.inn N c hWc c' (by omega) q2⟩
    have e0 : ∀ c', c < c' → c' < c + szF J.2.2.1 c → pj U (cE J.2.2.1 s.1 N c') := fun c' q1 q2 => by
      obtain ⟨i1, i2⟩ := inn c' q1 q2
      exact cE_w hS hC N c' i1 (by omega) (by omega)
    have kq : ∀ q, q < 30 → (s.1.2.2.1 c = nI q → kK J.2.2.1 c = q) := by
      intro q hq y
      have k37 := hS.1.2.1 c z.2.2.2.1
      rcases hS.ks z.2.2.2.1 with w | ⟨w, -⟩
      · rw [w] at y; exact (nI_eq (by omega) (by omega)).mp y
      · rw [w] at y
        have := (nI_eq (a := 30) (by omega) (by omega)).mp (show nI 30 = nI q from y)
        omega
    have hMc := hM.in (c := c) (by omega) z.2.2.1
    have hgc : out = some (τ (mX ℓ)) ∨ gX J.2.2.1 c := hg.imp id (fun w => gX.kid hS.1.1 hW w.1 hc w.2)
    have body : ∀ (μ P b : Nat), ¬ mX ℓ = μ → c < b → b < c + szF J.2.2.1 c → (gX J.2.2.1 c → ¬ kK J.2.2.1 b = 19 ∧ gX J.2.2.1 b) → ∀ q, SIt D q (wB J.2.2.1 s.1 N ℓ b q) (fun ν => if ν = μ then P else τ ν) → LPz D U M out q (q + (wB J.2.2.1 s.1 N ℓ b q).length) := by
      intro μ P b hμ q1 q2 hgb q hsb
      obtain ⟨i1, i2⟩ := inn b q1 q2
      refine ih ℓ b q M _ out i1 (by omega) (by omega) (hMc.in (by omega) i2) hsb ?_
      rcases hgc with w | w
      · left
        show out = some (if mX ℓ = μ then P else τ (mX ℓ))
        rw [if_neg hμ]
        exact w
      · exact Or.inr (hgb w)
    have iv : ∀ L, (∀ x, x ∈ L → pj U (cE J.2.2.1 s.1 N (x + 1))) → pj U (wIv J.2.2.1 s.1 (cE J.2.2.1 s.1 N) L) := by
      intro L
      induction L with
      | nil => intro _; exact pj.nil
      | cons c L ih => exact fun h => (h c List.mem_cons_self).app ((pv.i1 (by decide)).j.app (ih (fun x hx => h x (List.mem_cons_of_mem _ hx))))
    generalize hX : wT J.2.2.1 s.1 (cE J.2.2.1 s.1 N) (wB J.2.2.1 s.1 N) ℓ c p = X at *
    have okc := hWc.ok
    unfold wT at hX
    by_cases c12 : s.1.2.2.1 c = 12
    · rw [if_pos c12] at hX
      have kc := kq 12 (by omega) c12
      rw [kc] at okc
      obtain ⟨-, a, b, ha, hb', eks⟩ := okc
      obtain ⟨q1, q2, q3, q4, q5⟩ := hWc.k2 eks
      have m1 : c + 1 ∈ kids J.2.2.1 c := by rw [q1]; exact List.mem_cons_self
      have m2 : c + 1 + szF J.2.2.1 (c + 1) ∈ kids J.2.2.1 c := by rw [q1]; exact List.mem_cons_of_mem _ List.mem_cons_self
      have z1 := hWc.kin m1
      have z2 := hWc.kin m2
      have y2 := e0 _ z2.1 z2.2.1
      refine LPz.plain X p ?_ hs
      rw [← hX]
      split
      · rename_i k32
        obtain ⟨M', hM'⟩ := hS.1.1 (c + 1) z1.2.2.2.1
        have k32' : kK J.2.2.1 (c + 1) = 32 := by
          rcases hS.ks z1.2.2.2.1 with w | ⟨w, -⟩
          · rw [w] at k32; exact (nI_eq (b := 32) (by have := hS.1.2.1 _ z1.2.2.2.1; omega) (by omega)).mp k32
          · rw [w] at k32; exact absurd k32 (by decide)
        have ok1 := hM'.ok
        rw [k32'] at ok1
        obtain ⟨-, a', ha', eks'⟩ := ok1
        obtain ⟨r1, r2, r3, r4⟩ := hM'.k1 eks'
        have zz := hM'.kin (show c + 1 + 1 ∈ kids J.2.2.1 (c + 1) by rw [r1]; exact List.mem_cons_self)
        exact (e0 (c + 2) (by omega) (by omega)).app (y2.app (pv.i (by decide)).j)
      · exact y2.app (pv.i1 (by decide)).j
    rw [if_neg c12] at hX
    by_cases c13 : s.1.2.2.1 c = 13
    · rw [if_pos c13] at hX
      have kc := kq 13 (by omega) c13
      rw [kc] at okc
      refine LPz.plain X p ?_ hs
      rw [← hX]
      refine (iv _ (fun x hx => ?_)).app (fun y hy => ?_)
      · have zx := hWc.kin hx
        have k14 := hWc.mk okc.2 hx
        obtain ⟨M', hM'⟩ := hS.1.1 x zx.2.2.2.1
        have okx := hM'.ok
        rw [k14] at okx
        obtain ⟨-, a, ha, eks⟩ := okx
        obtain ⟨r1, r2, r3, r4⟩ := hM'.k1 eks
        have zk := hM'.kin (show x + 1 ∈ kids J.2.2.1 x by rw [r1]; exact List.mem_cons_self)
        exact e0 (x + 1) (by omega) (by omega)
      · rw [List.mem_singleton.mp hy]
        split
        · rename_i q9
          obtain ⟨b, b1, b2⟩ := (hC c (by omega) (by omega)).2.1 c13 q9
          exact ⟨rfl, by show ¬ (15 : Int32) = 10; decide, by show ¬ (15 : Int32) = 11; decide, by show ¬ (15 : Int32) = 13; decide, by show ¬ (15 : Int32) = 14; decide, fun _ => ⟨b, b1, b2⟩⟩
        · exact ⟨rfl, by show ¬ (17 : Int32) = 10; decide, by show ¬ (17 : Int32) = 11; decide, by show ¬ (17 : Int32) = 13; decide, by show ¬ (17 : Int32) = 14; decide, fun w => by
            have w : (17 : Int32) = 15 ∨ (17 : Int32) = 16 := w
            exact absurd w (by decide)⟩
    rw [if_neg c13] at hX
    by_cases c15 : s.1.2.2.1 c = 15
    · rw [if_pos c15] at hX
      have kc := kq 15 (by omega) c15
      rw [← hX] at hs ⊢
      rw [res_len]
      by_cases zz : 0 < (wIf c (cE J.2.2.1 s.1 N) (wB J.2.2.1 s.1 N ℓ) (kids J.2.2.1 c) p).length
      · have hl := hs.le (by rw [res_len]; exact zz)
        rw [res_len] at hl
        have hs := hs.rs (by unfold mE; omega)
        refine LPz.ifL hl (by show (if mE c = mE c then _ else _) = _; rw [if_pos rfl]) _ _ _ (Nat.le_refl _) (fun b hb q hsb => ?_) (fun x hx => e0 x (hWc.kin hx).1 (hWc.kin hx).2.1) hs rfl
        have zb := hWc.kin hb
        exact body _ _ b (by unfold mX mE; omega) zb.1 zb.2.1 (fun w => ⟨hWc.mk (p := fun x => ¬ x = 19) (fun x hx => by
          rw [kc] at okc
          have := okc_15 okc hx
          omega) hb, gX.kid hS.1.1 hWc (by omega) hb w⟩) q hsb
      · rw [show (wIf c (cE J.2.2.1 s.1 N) (wB J.2.2.1 s.1 N ℓ) (kids J.2.2.1 c) p).length = 0 by omega]
        exact LPz.nil
    rw [if_neg c15] at hX
    by_cases c16 : s.1.2.2.1 c = 16
    · rw [if_pos c16] at hX
      have kc := kq 16 (by omega) c16
      rw [← hX] at hs ⊢
      rw [res_len]
      have hl := hs.le (by rw [res_len, List.length_append, List.length_append, List.length_singleton]; omega)
      rw [res_len] at hl
      have hs := hs.rs (by unfold mE; omega)
      rw [kc] at okc
      obtain ⟨-, e1, cs, s1, o1, o2, o3, o4⟩ := okc
      obtain ⟨g1, g2, g3⟩ := hWc.k0 o4
      have z1 := hWc.kin g2
      refine (LPz.plain _ p (e0 _ z1.1 z1.2.1) hs.l).app ?_ hl
      refine (LPz.plain _ _ ((pv.i1 (by decide)).j) hs.r.l).app ?_ hl
      refine LPz.csL hl (by show (if mE c = mE c then _ else _) = _; rw [if_pos rfl]) _ _ (fun b hb => ?_) hs.r.r (by simp only [List.length_append, List.length_singleton]; omega)
      have kb' : kK J.2.2.1 b ∈ cs ++ s1 := by
        have : kK J.2.2.1 b ∈ ((kids J.2.2.1 c).tail).map (kK J.2.2.1) := List.mem_map_of_mem hb
        rw [List.map_tail, o4] at this
        exact this
      have hb := List.mem_of_mem_tail hb
      have zb := hWc.kin hb
      have k1711 : kK J.2.2.1 b = 17 ∨ kK J.2.2.1 b = 11 := by
        rcases List.mem_append.mp kb' with w | w
        · exact Or.inl (o2 _ w)
        · rcases o3 with y | y
          · rw [y] at w; cases w
          · rw [y] at w; exact Or.inr (List.mem_singleton.mp w)
      have gb : gX J.2.2.1 c → gX J.2.2.1 b := fun w => gX.kid hS.1.1 hWc (by omega) hb w
      refine ⟨fun _ => body _ _ b (by unfold mX mE; omega) zb.1 zb.2.1 (fun w => ⟨by omega, gb w⟩), fun q => ?_⟩
      have k17 : kK J.2.2.1 b = 17 := by
        rcases k1711 with w | w
        · exact w
        · exfalso
          apply q
          rcases hS.ks zb.2.2.2.1 with y | ⟨y, w'⟩
          · rw [y, w]; rfl
          · omega
      obtain ⟨M', hM'⟩ := hS.1.1 b zb.2.2.2.1
      obtain ⟨-, -, k11, bm, -, -⟩ := k17_s hM' k17
      have zl := hM'.kin bm
      exact body _ _ _ (by unfold mX mE; omega) (by omega) (by omega) (fun w => ⟨by omega, gX.kid hS.1.1 hM' (by omega) bm (gb w)⟩)
    rw [if_neg c16] at hX
    by_cases c19 : s.1.2.2.1 c = 19
    · rw [if_pos c19] at hX
      have kc := kq 19 (by omega) c19
      obtain ⟨-, -, -, k11, bm⟩ := k19_s hS hWc kc
      have zb := hWc.kin bm
      obtain ⟨i1, i2⟩ := inn _ zb.1 zb.2.1
      obtain ⟨M1, hMl⟩ := hM.lp z.1 z.2.1 (by
        have e : (J.2.2.1.getD c (0, 0, 0, 0, 1)).1 = nI (kK J.2.2.1 c) := hWc.kd
        rw [e, kc]; rfl)
      obtain ⟨M', rfl⟩ : ∃ M', M = M' + 1 := ⟨M - 1, by omega⟩
      rw [Nat.add_sub_cancel] at hMl
      obtain ⟨nt, nt1, nt2⟩ := (hC c (by omega) (by omega)).2.2 c19
      rw [← hX] at hs ⊢
      have el : (fr1 s.1 c ++ (((13, s.1.2.2.2.2 c, nI (p + 9 + (wB J.2.2.1 s.1 N c (bdF s.1 c) (p + 4)).length), 0, 0, 0) : IT) :: (wB J.2.2.1 s.1 N c (bdF s.1 c) (p + 4) ++ fr2 s.1 c p))).length = 9 + (wB J.2.2.1 s.1 N c (bdF s.1 c) (p + 4)).length := by
        rw [List.length_append, List.length_cons, List.length_append]
        show 3 + (_ + 5 + 1) = _
        omega
      have hl := hs.le (by rw [res_len, el]; omega)
      rw [res_len, el] at hl ⊢
      have hs := hs.rs (by unfold mX; omega)
      have inner := ih c (bdF s.1 c) (p + 4) M' (fun ν => if ν = mX c then p + 9 + (wB J.2.2.1 s.1 N c (bdF s.1 c) (p + 4)).length else τ ν) (some (p + 9 + (wB J.2.2.1 s.1 N c (bdF s.1 c) (p + 4)).length)) i1 (by omega) (by omega) (hMl.in (by omega) i2) hs.r.tl.l (Or.inl (by show _ = some (if mX c = mX c then _ else _); rw [if_pos rfl]))
      have hf2 := hs.r.tl.r
      generalize (wB J.2.2.1 s.1 N c (bdF s.1 c) (p + 4)).length = Bl at *
      have hnx := hs.r.hd
      have hct := (SIt.r (C := [_, _]) (E := [_]) hs.l).hd
      have f1 : pj U (fr1 s.1 c) := (pv.app (D := [_]) (pv.i1 (by decide)) (pv.app (D := [_]) (pv.i1 (by decide)) (pv.i (by decide)))).j
      have f2 : pj U [j1 1 (clV s.1 c), j1 0 (stp s.1 c), j1 7 (if tyV s.1 (s.1.2.2.2.1 c).toNatClampNeg = 1 then 0 else 5), j1 2 (clV s.1 c)] := (pv.app (D := [_]) (pv.i1 (by decide)) (pv.app (D := [_]) (pv.i1 (by decide)) (pv.app (D := [_]) (pv.i1 (by decide)) (pv.i1 (by decide))))).j
      have hf2' : SIt D (p + 4 + Bl) ([j1 1 (clV s.1 c), j1 0 (stp s.1 c), j1 7 (if tyV s.1 (s.1.2.2.2.1 c).toNatClampNeg = 1 then 0 else 5), j1 2 (clV s.1 c)] ++ [j1 14 (nI (p + 3))]) (fun ν => if ν = mX c then p + 9 + Bl else τ ν) := hf2
      have hbk := hf2'.r.hd
      have nx3 : (D.getD (p + 3) dIT).1 = 13 := hnx.2.1
      have nb3 : (D.getD (p + 3) dIT).2.2.1 = nI (p + 9 + Bl) := hnx.2.2.1
      have ct2 : (D.getD (p + 2) dIT).2.2.1 = (tms s.1 c).toInt32 := hct.2.2.1
      have bk : (D.getD (p + 4 + Bl + 4) dIT).1 = 14 := hbk.2.1
      have e3 : nx D (p + 3) = p + 9 + Bl := by unfold nx; rw [nx3, if_pos rfl, nb3, nI_clamp (by omega)]
      have fin : LPz D U (M' + 1) out (p + 3) (p + (9 + Bl)) := by
        refine LPz.cons (by rw [e3, Nat.add_assoc]; exact LPz.nil) (by omega) (by omega) hl ⟨by rw [nx3]; decide, fun w => by rw [nx3] at w; exact absurd w (by decide), fun w => by rw [nx3] at w; exact absurd w (by decide), fun w => by rw [nx3] at w; exact absurd w (by decide), fun _ => ⟨⟨nt, nt1, by omega, ?_⟩, p + 9 + Bl, nb3, by omega, by omega, ?_, ?_⟩⟩
        · rw [show p + 3 - 1 = p + 2 by omega, ct2]
          exact nt2
        · rw [show p + 9 + Bl - 1 = p + 4 + Bl + 4 by omega]
          exact bk
        · show ∃ k, LPk D U (RL D U M') (some (p + 9 + Bl)) (p + 9 + Bl - 1) k (p + 3 + 1)
          have := inner.app (LPz.plain _ _ f2 hf2'.l) (by show p + 4 + Bl + 4 ≤ _; omega)
          rw [show p + 9 + Bl - 1 = p + 4 + Bl + 4 by omega]
          exact this
      exact (LPz.plain _ p f1 hs.l).app fin hl
    rw [if_neg c19] at hX
    by_cases c20 : s.1.2.2.1 c = 20
    · rw [if_pos c20] at hX
      have kc := kq 20 (by omega) c20
      have ho : out = some (τ (mX ℓ)) := hgc.elim id (fun w => absurd kc (w.no (hWc.at).2))
      rw [← hX] at hs ⊢
      have h1 := hs.hd
      have o1 : (D.getD p dIT).1 = 10 := h1.2.1
      have a1 : (D.getD p dIT).2.1 = nI (τ (mX ℓ)) := h1.2.2.2.2 (by show ¬ mX ℓ = 0; unfold mX; omega)
      have e : nx D p = p + 1 := by unfold nx; rw [o1, if_neg (by decide)]
      refine LPz.cons (by rw [e]; exact LPz.nil) (by omega) (by show p < p + 1; omega) (by have := h1.1; show p + 1 ≤ _; omega) ⟨by rw [o1]; decide, fun w => by rw [o1] at w; exact absurd w (by decide), fun _ => ⟨_, a1, Or.inl ho⟩, fun w => by rw [o1] at w; exact absurd w (by decide), fun w => by rw [o1] at w; exact absurd w (by decide)⟩
    · rw [if_neg c20] at hX
      rw [← hX] at hs ⊢
      exact LPz.plain _ p (pv.i1 (by decide)).j hs
theorem unC_L {m0 : yM} {T : Nat} {J : JV} {s : SU} (hz : HZ m0 T J.2.2.1 s) {b M : Nat} (hb : b < s.1.1.length) (hC : CKu s.1 b (s.1.1.getD b dBK).2.1 ((s.1.1.getD b dBK).2.1 + szF J.2.2.1 (s.1.1.getD b dBK).2.1)) (hL : (unC J.2.2.1 s.1 186 b).length ≤ 3000) (hM : LDG M J.2.2.1) : LPz (unC J.2.2.1 s.1 186 b) b M none 0 (unC J.2.2.1 s.1 186 b).length := by
  have hS := hz.1
  obtain ⟨nl, kb⟩ := hz.2.2.2.1 b hb
  have hW := HZ.w hz nl
  have h0 := unC_0 hz hb
  have si : SIt (unC J.2.2.1 s.1 186 b) 0 (unC J.2.2.1 s.1 186 b) (fun _ => 0) := fun i x hx => ⟨x, by rw [Nat.zero_add]; exact hx, rfl, rfl, fun _ => rfl, fun w => absurd (h0 x (List.mem_of_getElem? hx)) w⟩
  have key : ∀ D : List IT, D.length ≤ 3000 → SIt D 0 (unC J.2.2.1 s.1 186 b) (fun _ => 0) → (unC J.2.2.1 s.1 186 b).length ≤ D.length → LPz D b M none 0 (unC J.2.2.1 s.1 186 b).length := by
    intro D hD si hl
    unfold unC at si hl ⊢
    rw [List.length_append] at hl ⊢
    have a := LPz.plain (U := b) (N := M) (out := none) _ 0 (bgC_v s.1 b).j si.l
    rw [Nat.zero_add] at a
    have sr := si.r
    rw [Nat.zero_add] at sr
    refine a.app (LPz.seq _ _ (fun c hc p hs => ?_) sr (fun _ => hl)) hl
    have hWc := hW.2.2.2.2.2.2 c hc
    have z := hW.kin hc
    by_cases k11 : kK J.2.2.1 c = 11
    · have e : ∀ p, unT J.2.2.1 s.1 186 ((s.1.1.getD b dBK).2.2.2.1 - 156) c p = wB J.2.2.1 s.1 186 0 c p := fun p => by unfold unT; rw [if_pos k11]
      rw [e] at hs ⊢
      exact wB_L hS hC hD 186 0 c p M _ none hWc (by omega) (by omega) (DLc.of hM z.2.2.2.1) hs (Or.inr ⟨by omega, gX_of hS.1.1 hz.2.2.1 hW kb hc⟩)
    · by_cases k22 : kK J.2.2.1 c = 22
      · have e : ∀ p, unT J.2.2.1 s.1 186 ((s.1.1.getD b dBK).2.2.2.1 - 156) c p = laC J.2.2.1 s.1 ((s.1.1.getD b dBK).2.2.2.1 - 156) (kids J.2.2.1 c) := fun p => by unfold unT; rw [if_neg k11, if_pos k22]
        rw [e] at hs ⊢
        exact LPz.plain _ p (laC_v J.2.2.1 s.1 _ _).j hs
      · have e : ∀ p, unT J.2.2.1 s.1 186 ((s.1.1.getD b dBK).2.2.2.1 - 156) c p = [] := fun p => by unfold unT; rw [if_neg k11, if_neg k22]
        rw [e]
        exact LPz.nil
  exact key _ hL si (Nat.le_refl _)
