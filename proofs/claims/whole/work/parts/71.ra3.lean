/-! RULES: what a node becomes; names, types, elements of the class -/
def upI (f : Nat → Int32) (n : Nat) (x : Int32) : Nat → Int32 := fun i => if i = n then x else f i
def setK (σ : RS) (n : Nat) (x : Int32) : RS := (σ.1, σ.2.1, upI σ.2.2.1 n x, σ.2.2.2.1, σ.2.2.2.2)
def setV (σ : RS) (n : Nat) (x : Int32) : RS := (σ.1, σ.2.1, σ.2.2.1, upI σ.2.2.2.1 n x, σ.2.2.2.2)
def setT (σ : RS) (n : Nat) (x : Int32) : RS := (σ.1, σ.2.1, σ.2.2.1, σ.2.2.2.1, upI σ.2.2.2.2 n x)
/-- what the rules of the class leave alone -/
def KR (m m' : yM) : Prop := (∀ a i, a < 2 ∨ a = 4 ∨ (7 < a ∧ a < 18) ∨ 30 < a → m'.1 a i = m.1 a i) ∧ m'.2 = m.2
theorem KR.re (m : yM) : KR m m := ⟨fun _ _ _ => rfl, rfl⟩
theorem KR.tr {m m1 m2 : yM} (h : KR m m1) (h2 : KR m1 m2) : KR m m2 := ⟨fun a i ha => by rw [h2.1 a i ha, h.1 a i ha], h2.2.trans h.2⟩
theorem KR.si {m m' : yM} (h : KR m m') {k i : Nat} {v : Int32} (hk : 2 ≤ k ∧ k ≤ 30 ∧ k ≠ 4 ∧ ¬ (7 < k ∧ k < 18)) : KR m (y_si m' k i v) := ⟨fun a b ha => by rw [y_si_at, if_neg (by omega)]; exact h.1 a b ha, h.2⟩
theorem CR.ss {F : List ND} {σ : RS} {m : yM} (h : CR F σ m) {k n : Nat} {x : Int32} (hk : k = 3 ∨ k = 5 ∨ k = 6) (σ' : RS) (e1 : σ'.1 = σ.1) (e2 : σ'.2.1 = σ.2.1) (e3 : σ'.2.2.1 = if k = 3 then upI σ.2.2.1 n x else σ.2.2.1) (e4 : σ'.2.2.2.1 = if k = 5 then upI σ.2.2.2.1 n x else σ.2.2.2.1) (e5 : σ'.2.2.2.2 = if k = 6 then upI σ.2.2.2.2 n x else σ.2.2.2.2) : CR F σ' (y_si m k n x) := by
  obtain ⟨h1, h2, h3, h4, h5⟩ := h
  have ot : ∀ a i, ¬ (a = k ∧ i = n) → (y_si m k n x).1 a i = m.1 a i := fun a i u => by rw [y_si_at, if_neg u]
  unfold CR
  rw [e1, e2, e3, e4, e5]
  refine ⟨?_, fun b y hb => ?_, fun v y hv => ?_, fun j hj => ?_, fun i hi => ?_⟩
  · rw [ot _ _ (by omega), ot _ _ (by omega), ot _ _ (by omega)]
    exact h1
  · rw [ot _ _ (by omega), ot _ _ (by omega), ot _ _ (by omega), ot _ _ (by omega)]
    exact h2 b y hb
  · refine ⟨by rw [ot _ _ (by omega)]; exact (h3 v y hv).1, fun z hz => ?_⟩
    rw [ot _ _ (by omega), ot _ _ (by omega), ot _ _ (by omega), ot _ _ (by omega)]
    exact (h3 v y hv).2 z hz
  · rw [ot _ _ (by omega), ot _ _ (by omega)]
    exact h4 j hj
  · obtain ⟨t1, t2, t3, t4, t5, t6⟩ := h5 i hi
    rw [ot 4 i (by omega), ot 7 i (by omega)]
    refine ⟨?_, t2, ?_, ?_, t5, t6⟩
    · by_cases k3 : k = 3
      · subst k3
        rw [if_pos rfl, y_si_at]
        unfold upI
        by_cases y : i = n
        · rw [if_pos ⟨rfl, y⟩, if_pos y]
        · rw [if_neg (fun z => y z.2), if_neg y]; exact t1
      · rw [if_neg k3, ot _ _ (by omega)]; exact t1
    · by_cases k3 : k = 5
      · subst k3
        rw [if_pos rfl, y_si_at]
        unfold upI
        by_cases y : i = n
        · rw [if_pos ⟨rfl, y⟩, if_pos y]
        · rw [if_neg (fun z => y z.2), if_neg y]; exact t3
      · rw [if_neg k3, ot _ _ (by omega)]; exact t3
    · by_cases k3 : k = 6
      · subst k3
        rw [if_pos rfl, y_si_at]
        unfold upI
        by_cases y : i = n
        · rw [if_pos ⟨rfl, y⟩, if_pos y]
        · rw [if_neg (fun z => y z.2), if_neg y]; exact t4
      · rw [if_neg k3, ot _ _ (by omega)]; exact t4
theorem CR.sK {F : List ND} {σ : RS} {m : yM} (h : CR F σ m) (n : Nat) (x : Int32) : CR F (setK σ n x) (y_si m 3 n x) := h.ss (Or.inl rfl) _ rfl rfl rfl rfl rfl
theorem CR.sV {F : List ND} {σ : RS} {m : yM} (h : CR F σ m) (n : Nat) (x : Int32) : CR F (setV σ n x) (y_si m 5 n x) := h.ss (Or.inr (Or.inl rfl)) _ rfl rfl rfl rfl rfl
theorem CR.sT {F : List ND} {σ : RS} {m : yM} (h : CR F σ m) (n : Nat) (x : Int32) : CR F (setT σ n x) (y_si m 6 n x) := h.ss (Or.inr (Or.inr rfl)) _ rfl rfl rfl rfl rfl
theorem PH.si {F : List ND} {A : List Nat} {m : yM} (h : PH F A m) {k i : Nat} {v : Int32} (hk : k ≠ 31 ∧ k ≠ 32) : PH F A (y_si m k i v) := by
  obtain ⟨h1, h2, h3⟩ := h
  refine ⟨h1, by rw [y_si_at, if_neg (by omega)]; exact h2, fun j x hj => ?_⟩
  rw [y_si_at, if_neg (by omega)]
  exact h3 j x hj
/-- what a look at a node leaves and answers -/
def LQ (F : List ND) (A : List Nat) (m : yM) (R : RS ⊕ Int32) (r : Option Value) (m' : yM) : Prop := KR m m' ∧ match R with
  | .inr c => r = some (.int c) ∧ ¬ c = 0
  | .inl σ' => r = some (.int 0) ∧ CR F σ' m' ∧ PH F A m'
theorem LQ.ok {F : List ND} {A : List Nat} {σ : RS} {m : yM} (h : CR F σ m) (hA : PH F A m) : LQ F A m (.inl σ) (some (.int 0)) m := ⟨KR.re m, rfl, h, hA⟩
theorem LQ.no {F : List ND} {A : List Nat} (m : yM) {c : Int32} (hc : ¬ c = 0) : LQ F A m (.inr c) (some (.int c)) m := ⟨KR.re m, rfl, hc⟩
def ifF (p : Prop) [Decidable p] (c : Int32) (σ : RS) : RS ⊕ Int32 := if p then .inr c else .inl σ
/-- all variables are described -/
def allD (σ : RS) : Prop := ∀ v, v < σ.2.1.length → vOk σ v
theorem fVar_c (σ : RS) (nm : Int32) : fVar σ nm = -1 ∨ ∃ v, v < σ.2.1.length ∧ fVar σ nm = nI v ∧ (σ.2.1.getD v dVK).1 = nm := by
  unfold fVar
  split
  · exact Or.inl rfl
  · exact lix_c _ _ _
def lkSect (σ : RS) (n : Nat) : RS ⊕ Int32 := ifF ((inB σ 3 ∧ ¬ σ.2.2.2.1 n = 0) ∨ (inB σ 1 ∧ σ.2.2.2.1 n = 2)) 13 σ
theorem c122 (xs : List Int32) (d : Nat) {F : List ND} {σ : RS} {A : List Nat} {m : yM} (h : CR F σ m) (hA : PH F A m) {n : Nat} (hn : n < F.length) : yC (xg xs) (d + 2) 122 [.ref 31, .int (nI n)] m (LQ F A m (lkSect σ n)) := by
  have hf := h.f
  have e : (nI n).toNatClampNeg = n := nI_clamp (by omega)
  unfold lkSect ifF
  have bad : ((inB σ 3 ∧ ¬ σ.2.2.2.1 n = 0) ∨ (inB σ 1 ∧ σ.2.2.2.1 n = 2)) → yP (xg xs) (d + 2) 122 41 [] [] m (LQ F A m (if (inB σ 3 ∧ ¬ σ.2.2.2.1 n = 0) ∨ (inB σ 1 ∧ σ.2.2.2.1 n = 2) then .inr 13 else .inl σ)) := by
    intro p
    rw [if_pos p]
    exact w122_41 xs (d + 1) m _ (w122_46 xs (d + 1) _ m _ ⟨fun u => absurd u (by decide), fun _ => LQ.no m (by decide)⟩)
  have good : ¬ ((inB σ 3 ∧ ¬ σ.2.2.2.1 n = 0) ∨ (inB σ 1 ∧ σ.2.2.2.1 n = 2)) → yP (xg xs) (d + 2) 122 45 [] [] m (LQ F A m (if (inB σ 3 ∧ ¬ σ.2.2.2.1 n = 0) ∨ (inB σ 1 ∧ σ.2.2.2.1 n = 2) then .inr 13 else .inl σ)) := by
    intro p
    rw [if_neg p]
    exact w122_45 xs (d + 1) m _ (w122_46 xs (d + 1) _ m _ ⟨fun _ => LQ.ok h hA, fun u => absurd rfl u⟩)
  have s25 : ¬ (inB σ 3 ∧ ¬ σ.2.2.2.1 n = 0) → yP (xg xs) (d + 2) 122 25 [(0, .ref 31), (2, .int (σ.2.2.2.1 n))] [] m (LQ F A m (if (inB σ 3 ∧ ¬ σ.2.2.2.1 n = 0) ∨ (inB σ 1 ∧ σ.2.2.2.1 n = 2) then .inr 13 else .inl σ)) := by
    intro p
    refine w122_25 xs (d + 1) _ m _ (y_ci (c114 xs d h 1) (by omega) ⟨fun u => good (fun y => y.elim p (fun y => if0 u y.1)), fun u => ⟨fun v => good (fun y => y.elim p (fun y => v y.2)), fun v => bad (Or.inr ⟨if1 u, v⟩)⟩⟩)
  refine w122_0 xs (d + 1) _ m _ ⟨x_in_nI (by omega) (by decide), ?_⟩
  rw [e, (h.t hn).2.2.1]
  refine y_ci (c114 xs d h 3) (by omega) ⟨fun u => s25 (fun y => if0 u y.1), fun u => ⟨fun v => bad (Or.inl ⟨if1 u, v⟩), fun v => s25 (fun y => y.2 v)⟩⟩
/-- the name of a variable, read -/
def lkVar (σ : RS) (form : Int32) (n : Nat) : RS ⊕ Int32 := if fVar σ (σ.2.2.2.1 n) = -1 then .inr 20 else if frm σ (fVar σ (σ.2.2.2.1 n)).toNatClampNeg = form then .inl (setT (setV σ n (fVar σ (σ.2.2.2.1 n))) n (tyV (setV σ n (fVar σ (σ.2.2.2.1 n))) (fVar σ (σ.2.2.2.1 n)).toNatClampNeg)) else .inr 21
theorem vOk.sV {σ : RS} {v : Nat} (h : vOk σ v) (n : Nat) (x : Int32) : vOk (setV σ n x) v := h
theorem c133 (xs : List Int32) (d : Nat) {F : List ND} {σ : RS} {A : List Nat} {m : yM} (h : CR F σ m) (hA : PH F A m) (h0 : 0 < σ.1.length) (hD : allD σ) {n j : Nat} (hn : n < F.length) (hv : σ.2.2.2.1 n = nI j) (hj : j < 4172) : yC (xg xs) (d + 3) 133 [.ref 34, .int (nI n)] m (LQ F A m (lkVar σ 8 n)) := by
  have hf := h.f
  have e : (nI n).toNatClampNeg = n := nI_clamp (by omega)
  have x1 : x_in (nI n) 16401 = true := x_in_nI (by omega) (by decide)
  unfold lkVar
  refine w133_0 xs (d + 2) _ m _ ⟨x1, ?_⟩
  rw [e, (h.t hn).2.2.1, hv]
  refine y_ci (c134 xs d h h0 hj) (by omega) ⟨fun u => ?_, fun u => ?_⟩
  · rw [if_neg u]
    rcases fVar_c σ (nI j) with y | ⟨v, v1, v2, v3⟩
    · exact absurd y u
    · have n2 := h.nV.2
      rw [v2, nI_clamp (by omega)]
      have vo := hD v v1
      refine y_ci (c135 xs d h vo) (by omega) ⟨fun w => ⟨x1, ?_⟩, fun w => ?_⟩
      · rw [if_pos w]
        refine y_ci (c136 xs d (h.sV n (nI v)) (vo.sV n (nI v))) (by omega) ⟨x1, ?_⟩
        exact ⟨((KR.re m).si (by omega)).si (by omega), rfl, (h.sV n (nI v)).sT n _, (hA.si (by omega)).si (by omega)⟩
      · rw [if_neg w]
        exact LQ.no m (by decide)
  · rw [if_pos u]
    exact LQ.no m (by decide)
def lkElem (σ : RS) (n : Nat) : RS ⊕ Int32 := if fVar σ (σ.2.2.2.1 n) = -1 then .inr 20 else if frm σ (fVar σ (σ.2.2.2.1 n)).toNatClampNeg = 9 then (if σ.2.2.2.2 (n + 1) = 0 then .inr 22 else .inl (setT (setV σ n (fVar σ (σ.2.2.2.1 n))) n (tyV (setV σ n (fVar σ (σ.2.2.2.1 n))) (fVar σ (σ.2.2.2.1 n)).toNatClampNeg))) else .inr 21
theorem c163 (xs : List Int32) (d : Nat) {F : List ND} {σ : RS} {A : List Nat} {m : yM} (h : CR F σ m) (hA : PH F A m) (h0 : 0 < σ.1.length) (hD : allD σ) {n j : Nat} (hn : n + 1 < F.length) (hv : σ.2.2.2.1 n = nI j) (hj : j < 4172) : yC (xg xs) (d + 3) 163 [.ref 34, .int (nI n)] m (LQ F A m (lkElem σ n)) := by
  have hf := h.f
  have e : (nI n).toNatClampNeg = n := nI_clamp (by omega)
  have e1 : (nI n + 1).toNatClampNeg = n + 1 := by rw [nI_1]; exact nI_clamp (by omega)
  have x1 : x_in (nI n) 16401 = true := x_in_nI (by omega) (by decide)
  have x2 : x_in (nI n + 1) 16401 = true := by rw [nI_1]; exact x_in_nI (by omega) (by decide)
  unfold lkElem
  refine w163_0 xs (d + 2) _ m _ ⟨x1, ?_⟩
  rw [e, (h.t (show n < F.length by omega)).2.2.1, hv]
  refine y_ci (c134 xs d h h0 hj) (by omega) ⟨fun u => ?_, fun u => ?_⟩
  · rw [if_neg u]
    rcases fVar_c σ (nI j) with y | ⟨v, v1, v2, v3⟩
    · exact absurd y u
    · have n2 := h.nV.2
      rw [v2, nI_clamp (by omega)]
      have vo := hD v v1
      refine y_ci (c135 xs d h vo) (by omega) ⟨fun w => ⟨x2, ?_⟩, fun w => ?_⟩
      · rw [if_pos w, e1, (h.t hn).2.2.2.1]
        refine ⟨fun z => ⟨x1, ?_⟩, fun z => ?_⟩
        · rw [if_neg z]
          refine y_ci (c136 xs d (h.sV n (nI v)) (vo.sV n (nI v))) (by omega) ⟨x1, ?_⟩
          exact ⟨((KR.re m).si (by omega)).si (by omega), rfl, (h.sV n (nI v)).sT n _, (hA.si (by omega)).si (by omega)⟩
        · rw [if_pos z]
          exact LQ.no m (by decide)
      · rw [if_neg w]
        exact LQ.no m (by decide)
  · rw [if_pos u]
    exact LQ.no m (by decide)
def lkInv (σ : RS) (n : Nat) : RS ⊕ Int32 := if fVar σ (σ.2.2.2.1 n) = -1 then .inr 20 else if frm (setV σ n (fVar σ (σ.2.2.2.1 n))) (fVar σ (σ.2.2.2.1 n)).toNatClampNeg = 10 then .inl (setV σ n (fVar σ (σ.2.2.2.1 n))) else .inr 21
theorem c151 (xs : List Int32) (d : Nat) {F : List ND} {σ : RS} {A : List Nat} {m : yM} (h : CR F σ m) (hA : PH F A m) (h0 : 0 < σ.1.length) (hD : allD σ) {n j : Nat} (hn : n < F.length) (hv : σ.2.2.2.1 n = nI j) (hj : j < 4172) : yC (xg xs) (d + 3) 151 [.ref 31, .int (nI n)] m (LQ F A m (lkInv σ n)) := by
  have hf := h.f
  have e : (nI n).toNatClampNeg = n := nI_clamp (by omega)
  have x1 : x_in (nI n) 16401 = true := x_in_nI (by omega) (by decide)
  unfold lkInv
  refine w151_0 xs (d + 2) _ m _ ⟨x1, ?_⟩
  rw [e, (h.t hn).2.2.1, hv]
  refine y_ci (c134 xs d h h0 hj) (by omega) ⟨fun u => ⟨x1, ?_⟩, fun u => ?_⟩
  · rw [if_neg u]
    rcases fVar_c σ (nI j) with y | ⟨v, v1, v2, v3⟩
    · exact absurd y u
    · have n2 := h.nV.2
      rw [v2, nI_clamp (by omega)]
      have vo := hD v v1
      refine y_ci (c135 xs d (h.sV n (nI v)) (vo.sV n (nI v))) (by omega) ⟨fun w => ?_, fun w => ?_⟩
      · rw [if_neg w]
        exact ⟨(KR.re m).si (by omega), rfl, by decide⟩
      · rw [if_pos w]
        exact ⟨(KR.re m).si (by omega), rfl, h.sV n (nI v), hA.si (by omega)⟩
  · rw [if_pos u]
    exact LQ.no m (by decide)
def lkBtyp (σ : RS) (n : Nat) : RS ⊕ Int32 := if fBlk σ 2 41 50 9 (σ.2.2.2.1 n) = -1 ∨ inB σ 1 then .inr 17 else .inl (setV σ n (fBlk σ 2 41 50 9 (σ.2.2.2.1 n)))
theorem c142 (xs : List Int32) (d : Nat) {F : List ND} {σ : RS} {A : List Nat} {m : yM} (h : CR F σ m) (hA : PH F A m) (h0 : 0 < σ.1.length) {n j : Nat} (hn : n < F.length) (hv : σ.2.2.2.1 n = nI j) (hj : j < 4172) : yC (xg xs) (d + 3) 142 [.ref 31, .int (nI n)] m (LQ F A m (lkBtyp σ n)) := by
  have hf := h.f
  have e : (nI n).toNatClampNeg = n := nI_clamp (by omega)
  have x1 : x_in (nI n) 16401 = true := x_in_nI (by omega) (by decide)
  unfold lkBtyp
  refine w142_0 xs (d + 2) _ m _ ⟨x1, ?_⟩
  rw [e, (h.t hn).2.2.1, hv]
  refine y_ci (c143 xs d h h0 hj) (by omega) ⟨fun u => ?_, fun u => ?_⟩
  · rw [if_pos (Or.inl u)]
    exact LQ.no m (by decide)
  · refine y_ci (c114 xs (d + 1) h 1) (by omega) ⟨fun w => ⟨x1, ?_⟩, fun w => ?_⟩
    · rw [if_neg (fun y => y.elim u (if0 w))]
      exact ⟨(KR.re m).si (by omega), rfl, h.sV n _, hA.si (by omega)⟩
    · rw [if_pos (Or.inr (if1 w))]
      exact LQ.no m (by decide)
