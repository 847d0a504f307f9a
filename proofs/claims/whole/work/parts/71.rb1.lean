/-! RULES: rungs, arrays, places of the class -/
def cntL (σ : RS) (K : List Nat) (a : Int32) : Int32 := K.foldl (fun a i => a + (if σ.2.2.1 i = 29 then 0 else 1)) a
/-- a rung whose rows do not fit -/
def rgB (F : List ND) (σ : RS) : List Nat → Int32 → Int32 → Bool
  | [] => fun _ _ => false
  | row :: R => fun r c => if 12 < r + 1 ∨ 12 < cntL σ (kids F row) 0 ∨ ¬ cntL σ (kids F row) 0 = (if r = 0 then cntL σ (kids F row) 0 else c) then true else rgB F σ R (r + 1) (if r = 0 then cntL σ (kids F row) 0 else c)
def lkRung (F : List ND) (σ : RS) (n : Nat) : RS ⊕ Int32 := if rgB F σ (kids F n) 0 0 = true then .inr 38 else .inl σ
theorem c144 (xs : List Int32) (d : Nat) {F : List ND} {σ : RS} {A : List Nat} {m : yM} (h : CR F σ m) (hA : PH F A m) {n : Nat} (hn : n < F.length) : yC (xg xs) (d + 1) 144 [.ref 31, .int (nI n)] m (LQ F A m (lkRung F σ n)) := by
  have hf := h.f
  have tn := h.t hn
  have e : (nI n).toNatClampNeg = n := nI_clamp (by omega)
  have x1 : x_in (nI n) 16401 = true := x_in_nI (by omega) (by decide)
  -- one row's cells
  have row : ∀ (R : RS ⊕ Int32) (i : Nat) (r c : Int32), i < F.length → ((¬ r = 0 → yP (xg xs) (d + 1) 144 94 [(0, .ref 31), (1, .int (nI n)), (2, .int r), (3, .int c), (4, .int (nI i)), (5, .int (cntL σ (kids F i) 0))] [] m (LQ F A m R)) ∧ (r = 0 → yP (xg xs) (d + 1) 144 94 [(0, .ref 31), (1, .int (nI n)), (2, .int r), (3, .int (cntL σ (kids F i) 0)), (4, .int (nI i)), (5, .int (cntL σ (kids F i) 0))] [] m (LQ F A m R))) → yP (xg xs) (d + 1) 144 32 [(0, .ref 31), (1, .int (nI n)), (2, .int r), (3, .int c), (4, .int (nI i)), (5, .int (0 : Int32)), (6, .int (nI i + 1))] [] m (LQ F A m R) := by
    intro R i r c hi K
    have ti := h.t hi
    have ei : (nI i).toNatClampNeg = i := nI_clamp (by omega)
    have xi : x_in (nI i) 16401 = true := x_in_nI (by omega) (by decide)
    have lp : ∀ (k q : Nat) (a : Int32), i + szF F i ≤ q + k → q ≤ F.length → cntL σ (kds F (i + szF F i) k q) a = cntL σ (kids F i) 0 → yP (xg xs) (d + 1) 144 32 [(0, .ref 31), (1, .int (nI n)), (2, .int r), (3, .int c), (4, .int (nI i)), (5, .int a), (6, .int (nI q))] [] m (LQ F A m R) := by
      intro k
      induction k with
      | zero =>
        intro q a hq hq2 ha
        refine w144_32 xs d _ _ _ _ _ _ m _ ⟨xi, ?_⟩
        rw [ei, ti.2.2.2.2.1]
        have ea : a = cntL σ (kids F i) 0 := ha
        rw [ea]
        exact ⟨fun _ => K, fun u => absurd (nI_le (by omega) (by omega)) u⟩
      | succ k ih =>
        intro q a hq hq2 ha
        refine w144_32 xs d _ _ _ _ _ _ m _ ⟨xi, ?_⟩
        rw [ei, ti.2.2.2.2.1]
        refine ⟨fun u => ?_, fun u => ?_⟩
        · have := (nI_leI (by omega) (by omega)).mp u
          rw [kds_n F _ _ q this] at ha
          have ea : a = cntL σ (kids F i) 0 := ha
          rw [ea]
          exact K
        · have lt : q < i + szF F i := by
            rcases Nat.lt_or_ge q (i + szF F i) with y | y
            · exact y
            · exact absurd (nI_le y (by omega)) u
          have ql : q < F.length := by omega
          have tq := h.t ql
          have xq : x_in (nI q) 16401 = true := x_in_nI (by omega) (by decide)
          have eq : (nI q).toNatClampNeg = q := nI_clamp (by omega)
          rw [kds_c F _ k q lt] at ha
          rw [eq, tq.1]
          have go : ∀ b : Int32, b = (if σ.2.2.1 q = 29 then 0 else 1) → yP (xg xs) (d + 1) 144 69 [(0, .ref 31), (1, .int (nI n)), (2, .int r), (3, .int c), (4, .int (nI i)), (6, .int (nI q))] [.int b, .int a] m (LQ F A m R) := by
            intro b hb
            refine w144_69 xs d _ _ _ _ _ _ _ m _ ⟨xq, ?_⟩
            rw [eq, tq.2.2.2.2.1]
            refine ih (q + szF F q) (a + b) (by omega) tq.2.2.2.2.2.1 ?_
            rw [hb]
            exact ha
          exact ⟨xq, fun v => go 1 (by rw [if_neg v]), fun v => go 0 (by rw [if_pos v])⟩
    rw [nI_1]
    exact lp (szF F i) (i + 1) 0 (by omega) (by omega) rfl
  have lp : ∀ (k i : Nat) (r c : Int32), n + szF F n ≤ i + k → i ≤ F.length → yP (xg xs) (d + 1) 144 9 [(0, .ref 31), (1, .int (nI n)), (2, .int r), (3, .int c), (4, .int (nI i))] [] m (LQ F A m (if rgB F σ (kds F (n + szF F n) k i) r c = true then .inr 38 else .inl σ)) := by
    intro k
    induction k with
    | zero =>
      intro i r c hi hi2
      refine w144_9 xs d _ _ _ _ m _ ⟨x1, ?_⟩
      rw [e, tn.2.2.2.2.1]
      exact ⟨fun _ => LQ.ok h hA, fun u => absurd (nI_le (by omega) (by omega)) u⟩
    | succ k ih =>
      intro i r c hi hi2
      refine w144_9 xs d _ _ _ _ m _ ⟨x1, ?_⟩
      rw [e, tn.2.2.2.2.1]
      refine ⟨fun u => ?_, fun u => ?_⟩
      · have := (nI_leI (by omega) (by omega)).mp u
        rw [kds_n F _ _ i this]
        exact LQ.ok h hA
      · have lt : i < n + szF F n := by
          rcases Nat.lt_or_ge i (n + szF F n) with y | y
          · exact y
          · exact absurd (nI_le y (by omega)) u
        have il : i < F.length := by omega
        have ti := h.t il
        have xi : x_in (nI i) 16401 = true := x_in_nI (by omega) (by decide)
        have ei : (nI i).toNatClampNeg = i := nI_clamp (by omega)
        rw [kds_c F _ k i lt]
        have er : rgB F σ (i :: kds F (n + szF F n) k (i + szF F i)) r c = if 12 < r + 1 ∨ 12 < cntL σ (kids F i) 0 ∨ ¬ cntL σ (kids F i) 0 = (if r = 0 then cntL σ (kids F i) 0 else c) then true else rgB F σ (kds F (n + szF F n) k (i + szF F i)) (r + 1) (if r = 0 then cntL σ (kids F i) 0 else c) := rfl
        have s94 : ∀ c' : Int32, c' = (if r = 0 then cntL σ (kids F i) 0 else c) → yP (xg xs) (d + 1) 144 94 [(0, .ref 31), (1, .int (nI n)), (2, .int r), (3, .int c'), (4, .int (nI i)), (5, .int (cntL σ (kids F i) 0))] [] m (LQ F A m (if rgB F σ (i :: kds F (n + szF F n) k (i + szF F i)) r c = true then .inr 38 else .inl σ)) := by
          intro c' hc'
          rw [er, ← hc']
          refine w144_94 xs d _ _ _ _ _ m _ ⟨fun v => ?_, fun v => ⟨fun w => ?_, fun w => ⟨fun z => ⟨xi, ?_⟩, fun z => ?_⟩⟩⟩
          · rw [if_pos (Or.inl v), if_pos rfl]
            exact LQ.no m (by decide)
          · rw [if_pos (Or.inr (Or.inl w)), if_pos rfl]
            exact LQ.no m (by decide)
          · rw [ei, ti.2.2.2.2.1, if_neg (show ¬ (12 < r + 1 ∨ 12 < cntL σ (kids F i) 0 ∨ ¬ cntL σ (kids F i) 0 = c') from fun y => y.elim v (fun y => y.elim w (fun y => y z)))]
            exact ih (i + szF F i) _ _ (by omega) ti.2.2.2.2.2.1
          · rw [if_pos (Or.inr (Or.inr z)), if_pos rfl]
            exact LQ.no m (by decide)
        exact row _ i r c il ⟨fun v => s94 c (by rw [if_neg v]), fun v => s94 _ (by rw [if_pos v])⟩
  refine w144_0 xs d _ m _ ?_
  rw [nI_1]
  exact lp (szF F n) (n + 1) 0 0 (by omega) (by omega)
def elT (σ : RS) (n : Nat) : Int64 := (σ.2.2.2.1 (n + 2)).toInt64 - (σ.2.2.2.1 (n + 1)).toInt64 + 1
def lkArr (σ : RS) (n : Nat) : RS ⊕ Int32 := if inB σ 1 ∨ σ.2.2.1 (n + 1) = 31 ∨ σ.2.2.1 (n + 2) = 31 ∨ lg_cmp (elT σ n) 1 < 0 ∨ ¬ lg_cmp (elT σ n) 256 ≤ 0 then .inr 16 else .inl (setT (setV σ n (elT σ n).toInt32) n (σ.2.2.2.1 (n + 3)))
theorem c141 (xs : List Int32) (d : Nat) {F : List ND} {σ : RS} {A : List Nat} {m : yM} (h : CR F σ m) (hA : PH F A m) {n : Nat} (hn : n + 3 < F.length) : yC (xg xs) (d + 2) 141 [.ref 31, .int (nI n)] m (LQ F A m (lkArr σ n)) := by
  have hf := h.f
  have t1 := h.t (show n + 1 < F.length by omega)
  have t2 := h.t (show n + 2 < F.length by omega)
  have t3 := h.t hn
  have a1 : nI n + 1 = nI (n + 1) := nI_1 n
  have a2 : nI n + 2 = nI (n + 2) := nI_add n 2
  have a3 : nI n + 3 = nI (n + 3) := nI_add n 3
  have e : (nI n).toNatClampNeg = n := nI_clamp (by omega)
  have e1 : (nI (n + 1)).toNatClampNeg = n + 1 := nI_clamp (by omega)
  have e2 : (nI (n + 2)).toNatClampNeg = n + 2 := nI_clamp (by omega)
  have e3 : (nI (n + 3)).toNatClampNeg = n + 3 := nI_clamp (by omega)
  have x0 : x_in (nI n) 16401 = true := x_in_nI (by omega) (by decide)
  have x1 : x_in (nI (n + 1)) 16401 = true := x_in_nI (by omega) (by decide)
  have x2 : x_in (nI (n + 2)) 16401 = true := x_in_nI (by omega) (by decide)
  have x3 : x_in (nI (n + 3)) 16401 = true := x_in_nI (by omega) (by decide)
  unfold lkArr
  refine w141_0 xs (d + 1) _ m _ (y_ci (c114 xs d h 1) (by omega) ⟨fun u => ?_, fun u => ?_⟩)
  · rw [if_pos (Or.inl (if1 u))]
    exact LQ.no m (by decide)
  · rw [a1, a2, a3, e, e1, e2, e3, t1.1, t2.1, t1.2.2.1, t2.2.2.1, show (σ.2.2.2.1 (n + 2)).toInt64 - (σ.2.2.2.1 (n + 1)).toInt64 + 1 = elT σ n from rfl]
    refine ⟨x1, fun v => ?_, fun v => ⟨x2, fun w => ⟨x2, x1, fun z => ?_, fun z => ⟨fun q => ⟨x0, x3, x0, ?_⟩, fun q => ?_⟩⟩, fun w => ?_⟩⟩
    · rw [if_pos (Or.inr (Or.inl v))]
      exact LQ.no m (by decide)
    · rw [if_pos (Or.inr (Or.inr (Or.inr (Or.inl z))))]
      exact LQ.no m (by decide)
    · rw [if_neg (fun y => y.elim (if0 u) (fun y => y.elim v (fun y => y.elim w (fun y => y.elim z (fun y => y q)))))]
      rw [y_si_at, if_neg (by omega), t3.2.2.1]
      exact ⟨((KR.re m).si (by omega)).si (by omega), rfl, (h.sV n _).sT n _, (hA.si (by omega)).si (by omega)⟩
    · rw [if_pos (Or.inr (Or.inr (Or.inr (Or.inr q))))]
      exact LQ.no m (by decide)
    · rw [if_pos (Or.inr (Or.inr (Or.inl w)))]
      exact LQ.no m (by decide)
/-- which places are taken -/
def UR (U : Nat → Bool) (m : yM) : Prop := ∀ c, c < 960 → m.1 33 c = if U c = true then 1 else 0
theorem plN : ∀ w, w < 6 → ∀ k, k < 256 → nI (256 * w + k) >>> ((8 : Int32) &&& 31) = nI w ∧ nI (256 * w + k) &&& 255 = nI k := by decide +kernel
def plC (w k : Nat) : Nat := if w < 3 then 256 * w + k else 768 + 64 * (w - 3) + k
theorem xar3 : ∀ w, w < 6 → xar_3.getD w 0 = nI (plC w 0) := by decide
abbrev plP (σ : RS) (A : List Nat) (U : Nat → Bool) (n w k : Nat) : Prop := ¬ inB σ 3 ∨ ¬ n = fPar A + 2 ∨ U (plC w k) = true
def LU (F : List ND) (A : List Nat) (m : yM) (U : Nat → Bool) (R : RS ⊕ Int32) (r : Option Value) (m' : yM) : Prop := (∀ a i, a < 2 ∨ a = 4 ∨ (7 < a ∧ a < 18) ∨ a = 31 ∨ a = 32 ∨ 33 < a → m'.1 a i = m.1 a i) ∧ m'.2 = m.2 ∧ match R with
  | .inr c => r = some (.int c) ∧ ¬ c = 0
  | .inl σ' => r = some (.int 0) ∧ CR F σ' m' ∧ PH F A m' ∧ UR U m'
def lkPlc (σ : RS) (A : List Nat) (U : Nat → Bool) (n w k : Nat) : RS ⊕ Int32 := if plP σ A U n w k then .inr 14 else .inl (setV σ n (nI (plC w k)))
theorem CR.s33 {F : List ND} {σ : RS} {m : yM} (h : CR F σ m) (i : Nat) (v : Int32) : CR F σ (y_si m 33 i v) := by
  obtain ⟨h1, h2, h3, h4, h5⟩ := h
  have ot : ∀ a j, a ≠ 33 → (y_si m 33 i v).1 a j = m.1 a j := fun a j u => by rw [y_si_at, if_neg (by omega)]
  refine ⟨?_, fun b y hb => ?_, fun b y hb => ⟨?_, fun z hz => ?_⟩, fun j hj => ?_, fun j hj => ?_⟩
  · rw [ot _ _ (by omega), ot _ _ (by omega), ot _ _ (by omega)]; exact h1
  · rw [ot _ _ (by omega), ot _ _ (by omega), ot _ _ (by omega), ot _ _ (by omega)]; exact h2 b y hb
  · rw [ot _ _ (by omega)]; exact (h3 b y hb).1
  · rw [ot _ _ (by omega), ot _ _ (by omega), ot _ _ (by omega), ot _ _ (by omega)]; exact (h3 b y hb).2 z hz
  · rw [ot _ _ (by omega), ot _ _ (by omega)]; exact h4 j hj
  · rw [ot _ _ (by omega), ot _ _ (by omega), ot _ _ (by omega), ot _ _ (by omega), ot _ _ (by omega)]; exact h5 j hj
theorem c140 (xs : List Int32) (d : Nat) {F : List ND} {σ : RS} {A : List Nat} {m : yM} (h : CR F σ m) (hA : PH F A m) {U : Nat → Bool} (hU : UR U m) {n w k : Nat} (hn : n < F.length) (hp : fPar A < n) (hw : w < 6) (hk : k < 256) (hk2 : 3 ≤ w → k < 64) (hv : σ.2.2.2.1 n = nI (256 * w + k)) : yC (xg xs) (d + 2) 140 [.ref 31, .int (nI n)] m (LU F A m (fun c => U c || decide (c = plC w k)) (lkPlc σ A U n w k)) := by
  have hf := h.f
  have t0 := h.t hn
  have e : (nI n).toNatClampNeg = n := nI_clamp (by omega)
  have x0 : x_in (nI n) 16401 = true := x_in_nI (by omega) (by decide)
  obtain ⟨b1, b2⟩ := plN w hw k hk
  have c9 : plC w k < 960 := by unfold plC; split <;> omega
  have ec : xar_3.getD w 0 + nI k = nI (plC w k) := by
    rw [xar3 w hw, nI_add]
    congr 1
    unfold plC
    split <;> omega
  unfold lkPlc
  have bad : plP σ A U n w k → LU F A m (fun c => U c || decide (c = plC w k)) (if plP σ A U n w k then .inr 14 else .inl (setV σ n (nI (plC w k)))) (some (.int 14)) m := by
    intro p
    rw [if_pos p]
    exact ⟨fun _ _ _ => rfl, rfl, rfl, by decide⟩
  have s40 : ∀ b : Int32, (b = 0 ↔ ¬ n = fPar A + 2) → yP (xg xs) (d + 2) 140 40 [(0, .ref 31), (1, .int (nI n)), (3, .int (nI (plC w k)))] [.int b] m (LU F A m (fun c => U c || decide (c = plC w k)) (if plP σ A U n w k then .inr 14 else .inl (setV σ n (nI (plC w k))))) := by
    intro b hb
    refine w140_40 xs (d + 1) _ _ _ m _ (y_ci (c114 xs d h 3) (by omega) ⟨fun u => bad (Or.inl (if0 u)), fun u => ⟨fun v => bad (Or.inr (Or.inl (hb.mp v))), fun v => ⟨x_in_nI c9 (by decide), ?_⟩⟩⟩)
    rw [nI_clamp (by omega), hU _ c9, e]
    refine ⟨fun z => ⟨x_in_nI c9 (by decide), x0, ?_⟩, fun z => bad (Or.inr (Or.inr ?_))⟩
    · have nu : ¬ U (plC w k) = true := if0 z
      have np : ¬ plP σ A U n w k := fun y => y.elim (fun y => y (if1 u)) (fun y => y.elim (fun y => v (hb.mpr y)) nu)
      rw [if_neg np]
      refine ⟨fun a i ha => ?_, rfl, rfl, (h.s33 _ _).sV n _, (hA.si (by omega)).si (by omega), fun c hc => ?_⟩
      · rw [y_si_at, if_neg (by omega), y_si_at, if_neg (by omega)]
      · rw [y_si_at, if_neg (by omega), y_si_at]
        by_cases y : c = plC w k
        · rw [if_pos ⟨rfl, y⟩, if_pos (by simp [y])]
          rfl
        · rw [if_neg (fun q => y q.2), hU c hc]
          simp [y]
    · exact if1 z
  refine w140_0 xs (d + 1) _ m _ ⟨x0, ?_⟩
  rw [e, t0.2.2.1, hv, b1, b2]
  refine ⟨x_in_nI (show w < xar_3.length from hw) (by decide), y_ci (c124 xs d hA) (by omega) ?_⟩
  rw [nI_clamp (by omega), ec]
  have ed : nI n - nI (fPar A) = nI (n - fPar A) := nI_sub (by omega)
  rw [ed]
  have eq : nI (n - fPar A) = 2 ↔ n = fPar A + 2 := by
    have := nI_eq (a := n - fPar A) (b := 2) (by omega) (by omega)
    constructor
    · intro y
      have := this.mp y
      omega
    · intro y
      exact this.mpr (by omega)
  exact ⟨fun u => s40 0 ⟨fun _ y => u (eq.mpr y), fun _ => rfl⟩, fun u => s40 1 ⟨fun y => absurd y (by decide), fun y => absurd (eq.mp u) y⟩⟩
