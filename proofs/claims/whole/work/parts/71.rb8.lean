/-! RULES: a look at any node of the class -/
theorem LQ.out {F : List ND} {A : List Nat} {m : yM} {R : RS ⊕ Int32} {r : Option Value} {m' : yM} (h : LQ F A m R r m') : ∃ u, r = some (.int u) := by
  obtain ⟨_, h⟩ := h
  cases R with
  | inr c => exact ⟨c, h.1⟩
  | inl s => exact ⟨0, h.1⟩
theorem LU.out {F : List ND} {A : List Nat} {m : yM} {U : Nat → Bool} {R : RS ⊕ Int32} {r : Option Value} {m' : yM} (h : LU F A m U R r m') : ∃ u, r = some (.int u) := by
  obtain ⟨_, _, h⟩ := h
  cases R with
  | inr c => exact ⟨c, h.1⟩
  | inl s => exact ⟨0, h.1⟩
theorem LQ.u {F : List ND} {A : List Nat} {m : yM} {U : Nat → Bool} (hU : UR U m) {R : RS ⊕ Int32} {r : Option Value} {m' : yM} (h : LQ F A m R r m') : LU F A m U R r m' := by
  obtain ⟨k, h⟩ := h
  refine ⟨fun a i ha => k.1 a i (by omega), k.2, ?_⟩
  cases R with
  | inr c => exact h
  | inl s => exact ⟨h.1, h.2.1, h.2.2, fun c hc => by rw [k.1 33 c (by omega)]; exact hU c hc⟩
theorem y_lq {G : xG} {d d' j : Nat} {as : List Value} {m m0 : yM} {F : List ND} {A : List Nat} {R : RS ⊕ Int32} {P : Option Value → yM → Prop} (h : yC G d j as m (LQ F A m0 R)) (hd : d ≤ d') (k : ∀ r m', LQ F A m0 R r m' → P r m') : yC G d' j as m (fun r m1 => ∃ u, r = some (Value.int u) ∧ P (some (.int u)) m1) :=
  yC.mono hd (fun r m1 q => by
    obtain ⟨u, e⟩ := q.out
    exact ⟨u, e, k _ _ (e ▸ q)⟩) h
theorem y_lu {G : xG} {d d' j : Nat} {as : List Value} {m m0 : yM} {F : List ND} {A : List Nat} {U : Nat → Bool} {R : RS ⊕ Int32} {P : Option Value → yM → Prop} (h : yC G d j as m (LU F A m0 U R)) (hd : d ≤ d') (k : ∀ r m', LU F A m0 U R r m' → P r m') : yC G d' j as m (fun r m1 => ∃ u, r = some (Value.int u) ∧ P (some (.int u)) m1) :=
  yC.mono hd (fun r m1 q => by
    obtain ⟨u, e⟩ := q.out
    exact ⟨u, e, k _ _ (e ▸ q)⟩) h
def lkX (F : List ND) (σ : RS) (n : Nat) : RS ⊕ Int32 :=
  if σ.2.2.1 n = 30 then .inl (setT σ n (if 32767 < σ.2.2.2.1 n then 2 else 1)) else if σ.2.2.1 n = 32 then lkElem σ n else if σ.2.2.1 n = 33 then lkOut σ n else if σ.2.2.1 n = 34 then lkCall F σ n else if σ.2.2.1 n = 35 then lkTwo F σ n else if σ.2.2.1 n = 36 then lkOne F σ n else .inl σ
def lkS (F : List ND) (A : List Nat) (σ : RS) (n : Nat) : RS ⊕ Int32 :=
  if σ.2.2.1 n = 12 then lkAsg F σ A n else if σ.2.2.1 n = 13 then lkInv σ n else if σ.2.2.1 n = 14 then lkPrm F σ A n else if σ.2.2.1 n = 15 then lkIf F σ n else if σ.2.2.1 n = 16 then (if σ.2.2.2.2 (n + 1) = 0 then .inr 34 else .inl σ) else if σ.2.2.1 n = 18 then lkRng F σ n else if σ.2.2.1 n = 19 then lkFor σ A n else if σ.2.2.1 n = 20 then (if A.any (for0 σ) = true then .inl σ else .inr 37) else .inl σ
def lk (F : List ND) (A : List Nat) (σ : RS) (U : Nat → Bool) (n : Nat) : RS ⊕ Int32 :=
  if σ.2.2.1 n = 0 then lkText σ else if σ.2.2.1 n = 1 ∨ σ.2.2.1 n = 2 ∨ σ.2.2.1 n = 3 then lkBlk F σ else if σ.2.2.1 n = 4 then lkSect σ n else if σ.2.2.1 n = 5 then lkDcl F σ A n else if σ.2.2.1 n = 6 then lkName σ A n else if σ.2.2.1 n = 7 then lkPlc σ A U n ((σ.2.2.2.1 n).toNatClampNeg / 256) ((σ.2.2.2.1 n).toNatClampNeg % 256) else if σ.2.2.1 n = 9 then lkArr σ n else if σ.2.2.1 n = 10 then lkBtyp σ n else if σ.2.2.1 n = 23 then lkRung F σ n else if σ.2.2.1 n = 25 then (if σ.2.2.2.2 (n + 1) = 0 then .inl σ else .inr 41) else if σ.2.2.1 n = 28 then lkCoil F σ A n else if σ.2.2.1 n = 29 then lkLink F σ A else if 23 ≤ σ.2.2.1 n then lkX F σ n else lkS F A σ n
def nU (σ : RS) (U : Nat → Bool) (n : Nat) : Nat → Bool := if σ.2.2.1 n = 7 then (fun c => U c || decide (c = plC ((σ.2.2.2.1 n).toNatClampNeg / 256) ((σ.2.2.2.1 n).toNatClampNeg % 256))) else U
def nmO (σ : RS) (n : Nat) : Prop := ∃ j, σ.2.2.2.1 n = nI j ∧ j < 4172
def vrO (σ : RS) (n : Nat) : Prop := ∃ v, σ.2.2.2.1 n = nI v ∧ vOk σ v
/-- what a look at an expression wants -/
def preX (F : List ND) (σ : RS) (n : Nat) : Prop :=
  (σ.2.2.1 n = 32 ∨ σ.2.2.1 n = 33 ∨ σ.2.2.1 n = 34 → nmO σ n ∧ allD σ) ∧ (σ.2.2.1 n = 32 ∨ σ.2.2.1 n = 33 ∨ σ.2.2.1 n = 36 → n + 1 < F.length) ∧ (σ.2.2.1 n = 33 → btOk σ) ∧ (σ.2.2.1 n = 34 → calOk F σ n) ∧ (σ.2.2.1 n = 35 → n + 1 + szF F (n + 1) < F.length)
/-- a statement -/
def preS (F : List ND) (A : List Nat) (σ : RS) (n : Nat) : Prop :=
  (σ.2.2.1 n = 12 → n + 1 + szF F (n + 1) < F.length ∧ vrO σ (n + 1)) ∧ (σ.2.2.1 n = 13 → nmO σ n ∧ allD σ) ∧ (σ.2.2.1 n = 14 → n + 1 < F.length ∧ fPar A < n ∧ nmO σ (fPar A) ∧ allD σ ∧ btOk σ) ∧ (σ.2.2.1 n = 16 → n + 1 < F.length) ∧ (σ.2.2.1 n = 18 → 2 ≤ szF F n) ∧ (σ.2.2.1 n = 19 → n + 3 < F.length ∧ nmO σ n ∧ allD σ)
/-- the rest -/
def preP (F : List ND) (A : List Nat) (σ : RS) (n : Nat) : Prop :=
  (σ.2.2.1 n = 1 ∨ σ.2.2.1 n = 2 ∨ σ.2.2.1 n = 3 → allD σ) ∧ (σ.2.2.1 n = 5 → dcT0 F σ n < F.length ∧ dcT F σ n < F.length ∧ dcT0 F σ n - n - 1 ≤ σ.2.1.length ∧ (¬ σ.2.2.1 (dcT F σ n) = 8 → ¬ σ.2.2.1 (dcT F σ n) = 9 → blT σ (σ.2.2.2.1 (dcT F σ n)))) ∧ (σ.2.2.1 n = 6 → nmO σ n ∧ (¬ σ.2.2.1 (fPar A) = 33 → ¬ σ.2.2.1 (fPar A) = 5 → allD σ) ∧ σ.2.1.length < 4096) ∧ (σ.2.2.1 n = 7 → fPar A < n ∧ ∃ w k, w < 6 ∧ k < 256 ∧ (3 ≤ w → k < 64) ∧ σ.2.2.2.1 n = nI (256 * w + k)) ∧ (σ.2.2.1 n = 9 → n + 3 < F.length) ∧ (σ.2.2.1 n = 10 → nmO σ n) ∧ (σ.2.2.1 n = 25 → n + 1 < F.length) ∧ (σ.2.2.1 n = 28 → n + 1 < F.length ∧ vrO σ (n + 1))
def pre (F : List ND) (A : List Nat) (σ : RS) (n : Nat) : Prop := n < F.length ∧ (¬ σ.2.2.1 n = 0 → 0 < σ.1.length) ∧ preX F σ n ∧ preS F A σ n ∧ preP F A σ n
theorem c162 (xs : List Int32) (d : Nat) {F : List ND} {σ : RS} {A : List Nat} {m : yM} (h : CR F σ m) (hA : PH F A m) (h0 : 0 < σ.1.length) {n : Nat} (hn : n < F.length) (hp : preX F σ n) : yC (xg xs) (d + 5) 162 [.ref 34, .int (nI n)] m (LQ F A m (lkX F σ n)) := by
  have hf := h.f
  have t0 := h.t hn
  have e : (nI n).toNatClampNeg = n := nI_clamp (by omega)
  have x1 : x_in (nI n) 16401 = true := x_in_nI (by omega) (by decide)
  obtain ⟨p1, p2, p3, p4, p5⟩ := hp
  refine w162_0 xs (d + 4) _ m _ ?_
  rw [e, t0.1, t0.2.2.1]
  have fin : ∀ x : Int32, yP (xg xs) (d + 5) 162 80 [] [.int x, .int (nI n), .ref 6] m (LQ F A m (.inl (setT σ n x))) := by
    intro x
    refine w162_80 xs (d + 4) _ _ m _ ⟨x1, ?_⟩
    rw [e]
    exact ⟨(KR.re m).si (by omega), rfl, h.sT n x, hA.si (by omega)⟩
  unfold lkX
  generalize hK : σ.2.2.1 n = K at *
  refine ⟨x1, fun u => ⟨x1, fun w => ?_, fun w => ?_⟩, fun u => ?_, fun u => ?_, fun u => ?_, fun u => ?_, fun u => ?_, fun u1 u2 u3 u4 u5 u6 => ?_⟩
  · rw [if_pos u, if_pos w]; exact fin 2
  · rw [if_pos u, if_neg w]; exact fin 1
  · subst u
    obtain ⟨⟨j, j1, j2⟩, q⟩ := p1 (by decide)
    rw [if_neg (by decide), if_pos rfl]
    exact y_lq (c163 xs d h hA h0 q (p2 (by decide)) j1 j2) (by omega) (fun _ _ q => q)
  · subst u
    obtain ⟨⟨j, j1, j2⟩, q⟩ := p1 (by decide)
    rw [if_neg (by decide), if_neg (by decide), if_pos rfl]
    exact y_lq (c164 xs d h hA h0 q (p3 rfl) (p2 (by decide)) j1 j2) (by omega) (fun _ _ q => q)
  · subst u
    obtain ⟨⟨j, j1, j2⟩, q⟩ := p1 (by decide)
    rw [if_neg (by decide), if_neg (by decide), if_neg (by decide), if_pos rfl]
    exact y_lq (c165 xs d h hA h0 q hn j1 j2 (p4 rfl)) (by omega) (fun _ _ q => q)
  · subst u
    rw [if_neg (by decide), if_neg (by decide), if_neg (by decide), if_neg (by decide), if_pos rfl]
    exact y_lq (c180 xs d h hA (p5 rfl)) (by omega) (fun _ _ q => q)
  · subst u
    rw [if_neg (by decide), if_neg (by decide), if_neg (by decide), if_neg (by decide), if_neg (by decide), if_pos rfl]
    exact y_lq (c182 xs d h hA (p2 (by decide))) (by omega) (fun _ _ q => q)
  · rw [if_neg u1, if_neg u2, if_neg u3, if_neg u4, if_neg u5, if_neg u6]
    exact LQ.ok h hA
theorem c148 (xs : List Int32) (d : Nat) {F : List ND} {σ : RS} {A : List Nat} {m : yM} (h : CR F σ m) (hA : PH F A m) (h0 : 0 < σ.1.length) {n : Nat} (hn : n < F.length) (hp : preS F A σ n) : yC (xg xs) (d + 5) 148 [.ref 31, .int (nI n)] m (LQ F A m (lkS F A σ n)) := by
  have hf := h.f
  have t0 := h.t hn
  have e : (nI n).toNatClampNeg = n := nI_clamp (by omega)
  have x1 : x_in (nI n) 16401 = true := x_in_nI (by omega) (by decide)
  obtain ⟨p1, p2, p3, p4, p5, p6⟩ := hp
  refine w148_0 xs (d + 4) _ m _ ?_
  rw [e, t0.1]
  unfold lkS
  generalize hK : σ.2.2.1 n = K at *
  refine ⟨x1, fun u => ?_, fun u => ?_, fun u => ?_, fun u => ?_, fun u => ?_, fun u => ?_, fun u => ?_, fun u => ?_, fun u1 u2 u3 u4 u5 u6 u7 u8 => ?_⟩
  · subst u
    obtain ⟨q, v, v1, v2⟩ := p1 rfl
    rw [if_pos rfl]
    exact y_lq (c149 xs d h hA q v1 v2) (by omega) (fun _ _ q => q)
  · subst u
    obtain ⟨⟨j, j1, j2⟩, q⟩ := p2 rfl
    rw [if_neg (by decide), if_pos rfl]
    exact y_lq (c151 xs d h hA h0 q hn j1 j2) (by omega) (fun _ _ q => q)
  · subst u
    obtain ⟨q1, q2, ⟨j, j1, j2⟩, q3, q4⟩ := p3 rfl
    rw [if_neg (by decide), if_neg (by decide), if_pos rfl]
    exact y_lq (c152 xs d h hA h0 q3 q4 q1 q2 j1 j2) (by omega) (fun _ _ q => q)
  · subst u
    rw [if_neg (by decide), if_neg (by decide), if_neg (by decide), if_pos rfl]
    exact y_lq (c156 xs d h hA hn) (by omega) (fun _ _ q => q)
  · subst u
    have n1 := p4 rfl
    have e1 : (nI (n + 1)).toNatClampNeg = n + 1 := nI_clamp (by omega)
    rw [if_neg (by decide), if_neg (by decide), if_neg (by decide), if_neg (by decide), if_pos rfl, nI_1, e1, (h.t n1).2.2.2.1]
    refine ⟨x_in_nI (by omega) (by decide), fun w => ?_, fun w => ?_⟩
    · rw [if_neg w]; exact LQ.ok h hA
    · rw [if_pos w]; exact LQ.no m (by decide)
  · subst u
    rw [if_neg (by decide), if_neg (by decide), if_neg (by decide), if_neg (by decide), if_neg (by decide), if_pos rfl]
    exact y_lq (c157 xs d h hA hn (p5 rfl)) (by omega) (fun _ _ q => q)
  · subst u
    obtain ⟨q1, ⟨j, j1, j2⟩, q3⟩ := p6 rfl
    rw [if_neg (by decide), if_neg (by decide), if_neg (by decide), if_neg (by decide), if_neg (by decide), if_neg (by decide), if_pos rfl]
    exact y_lq (c158 xs d h hA h0 q3 q1 j1 j2) (by omega) (fun _ _ q => q)
  · subst u
    rw [if_neg (by decide), if_neg (by decide), if_neg (by decide), if_neg (by decide), if_neg (by decide), if_neg (by decide), if_neg (by decide), if_pos rfl]
    refine y_ci (c161 xs (d + 3) h hA) (by omega) ⟨fun w => ?_, fun w => ?_⟩
    · rw [if_neg (if0 w)]; exact LQ.no m (by decide)
    · rw [if_pos (if1 w)]; exact LQ.ok h hA
  · rw [if_neg u1, if_neg u2, if_neg u3, if_neg u4, if_neg u5, if_neg u6, if_neg u7, if_neg u8]
    exact LQ.ok h hA
