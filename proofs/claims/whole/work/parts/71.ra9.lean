/-! RULES: loops, rungs, places, arrays of the class -/
def stp (σ : RS) (n : Nat) : Int32 := if σ.2.2.1 (n + 3) = 11 then 1 else σ.2.2.2.1 (n + 3)
theorem c159 (xs : List Int32) (d : Nat) {F : List ND} {σ : RS} {m : yM} (h : CR F σ m) {n : Nat} (hn : n + 3 < F.length) : yC (xg xs) (d + 1) 159 [.ref 2, .int (nI n)] m (fun r m' => r = some (.int (stp σ n)) ∧ m' = m) := by
  have hf := h.f
  have t3 := h.t hn
  have a3 : nI n + 3 = nI (n + 3) := nI_add n 3
  have e3 : (nI (n + 3)).toNatClampNeg = n + 3 := nI_clamp (by omega)
  have x3 : x_in (nI (n + 3)) 16401 = true := x_in_nI (by omega) (by decide)
  unfold stp
  refine w159_0 xs d _ m _ ?_
  rw [a3, e3, t3.1, t3.2.2.1]
  exact ⟨x3, fun u => ⟨x3, by rw [if_neg u], rfl⟩, fun u => ⟨by rw [if_pos u], rfl⟩⟩
def difT (σ : RS) (n : Nat) : Int64 := (σ.2.2.2.1 (n + 2)).toInt64 - (σ.2.2.2.1 (n + 1)).toInt64
/-- how often a loop turns -/
def tms (σ : RS) (n : Nat) : Int64 := if (stp σ n).toInt64 = 0 then 0 else if difT σ n = 0 then difT σ n / (stp σ n).toInt64 + 1 else if (0 ≤ lg_cmp (difT σ n) 0) = (0 ≤ lg_cmp (stp σ n).toInt64 0) then difT σ n / (stp σ n).toInt64 + 1 else 0
theorem c160 (xs : List Int32) (d : Nat) {F : List ND} {σ : RS} {m : yM} (h : CR F σ m) {n : Nat} (hn : n + 3 < F.length) : yC (xg xs) (d + 2) 160 [.ref 2, .int (nI n)] m (fun r m' => r = some (.long (tms σ n)) ∧ m' = m) := by
  have hf := h.f
  have t1 := h.t (show n + 1 < F.length by omega)
  have t2 := h.t (show n + 2 < F.length by omega)
  have a1 : nI n + 1 = nI (n + 1) := nI_1 n
  have a2 : nI n + 2 = nI (n + 2) := nI_add n 2
  have e1 : (nI (n + 1)).toNatClampNeg = n + 1 := nI_clamp (by omega)
  have e2 : (nI (n + 2)).toNatClampNeg = n + 2 := nI_clamp (by omega)
  unfold tms
  refine w160_0 xs (d + 1) _ m _ (y_ci (c159 xs d h hn) (by omega) ?_)
  rw [a1, a2, e1, e2, t1.2.2.1, t2.2.2.1]
  show _ ∧ _ ∧ (lg_cmp (stp σ n).toInt64 0 = 0 → _) ∧ (¬ lg_cmp (stp σ n).toInt64 0 = 0 → _)
  refine ⟨x_in_nI (by omega) (by decide), x_in_nI (by omega) (by decide), fun u => ⟨?_, rfl⟩, fun u => ?_⟩
  · rw [if_pos ((lg_cmp_eq _ _).mp u)]
  · have nz : ¬ (stp σ n).toInt64 = 0 := fun y => u ((lg_cmp_eq _ _).mpr y)
    rw [if_neg nz]
    refine ⟨fun v => ⟨nz, ?_, rfl⟩, fun v => ?_⟩
    · rw [if_pos (show difT σ n = 0 from (lg_cmp_eq _ _).mp v)]
      rfl
    · have nd : ¬ difT σ n = 0 := fun y => v ((lg_cmp_eq _ _).mpr y)
      rw [if_neg nd]
      refine ⟨fun w => w160_53 xs (d + 1) _ _ _ m _ ⟨fun z => ?_, fun z => ?_⟩, fun w => w160_53 xs (d + 1) _ _ _ m _ ⟨fun z => ?_, fun z => ?_⟩⟩
      · refine w160_64 xs (d + 1) _ _ _ _ m _ ⟨fun _ => ⟨nz, ?_, rfl⟩, fun q => absurd rfl q⟩
        rw [if_pos (show (0 ≤ lg_cmp (difT σ n) 0) = (0 ≤ lg_cmp (stp σ n).toInt64 0) from propext ⟨fun _ => z, fun _ => w⟩)]
        rfl
      · refine w160_64 xs (d + 1) _ _ _ _ m _ ⟨fun q => absurd q (by decide), fun _ => ⟨?_, rfl⟩⟩
        rw [if_neg (show ¬ (0 ≤ lg_cmp (difT σ n) 0) = (0 ≤ lg_cmp (stp σ n).toInt64 0) from fun y => z (y ▸ w))]
      · refine w160_64 xs (d + 1) _ _ _ _ m _ ⟨fun q => absurd q (by decide), fun _ => ⟨?_, rfl⟩⟩
        rw [if_neg (show ¬ (0 ≤ lg_cmp (difT σ n) 0) = (0 ≤ lg_cmp (stp σ n).toInt64 0) from fun y => w (y ▸ z))]
      · refine w160_64 xs (d + 1) _ _ _ _ m _ ⟨fun _ => ⟨nz, ?_, rfl⟩, fun q => absurd rfl q⟩
        rw [if_pos (show (0 ≤ lg_cmp (difT σ n) 0) = (0 ≤ lg_cmp (stp σ n).toInt64 0) from propext ⟨fun y => absurd y w, fun y => absurd y z⟩)]
        rfl
/-- a bound of a loop that is wrong -/
def frK (σ : RS) (t : Int32) : Nat → Nat → Bool
  | 0 => fun _ => false
  | k + 1 => fun i => if σ.2.2.1 i = 11 then false else if σ.2.2.1 i = 31 ∨ ¬ rgP (σ.2.2.2.1 i) t then true else frK σ t k (i + 1)
def lkForP (σ : RS) (n : Nat) (t : Int32) : RS ⊕ Int32 := if frK σ t 3 (n + 1) = true ∨ stp σ n = 0 ∨ ¬ lg_cmp (tms σ n) 1000000 ≤ 0 then .inr 36 else .inl σ
def lkFor (σ : RS) (A : List Nat) (n : Nat) : RS ⊕ Int32 :=
  if fVar σ (σ.2.2.2.1 n) = -1 then .inr 20
  else if ¬ frm σ (fVar σ (σ.2.2.2.1 n)).toNatClampNeg = 8 then .inr 21
  else if tyV σ (fVar σ (σ.2.2.2.1 n)).toNatClampNeg = 0 then .inr 22
  else if ¬ fAs σ A (fVar σ (σ.2.2.2.1 n)).toNatClampNeg = 0 then .inr (fAs σ A (fVar σ (σ.2.2.2.1 n)).toNatClampNeg)
  else lkForP (setV σ n (fVar σ (σ.2.2.2.1 n))) n (tyV σ (fVar σ (σ.2.2.2.1 n)).toNatClampNeg)
theorem c158 (xs : List Int32) (d : Nat) {F : List ND} {σ : RS} {A : List Nat} {m : yM} (h : CR F σ m) (hA : PH F A m) (h0 : 0 < σ.1.length) (hD : allD σ) {n j : Nat} (hn : n + 3 < F.length) (hv : σ.2.2.2.1 n = nI j) (hj : j < 4172) : yC (xg xs) (d + 3) 158 [.ref 31, .int (nI n)] m (LQ F A m (lkFor σ A n)) := by
  have hf := h.f
  have t0 := h.t (show n < F.length by omega)
  have e : (nI n).toNatClampNeg = n := nI_clamp (by omega)
  have x1 : x_in (nI n) 16401 = true := x_in_nI (by omega) (by decide)
  unfold lkFor
  refine w158_0 xs (d + 2) _ m _ ⟨x1, ?_⟩
  rw [e, t0.2.2.1, hv]
  refine y_ci (c134 xs (d + 1) h h0 hj) (by omega) ⟨fun u => ?_, fun u => ?_⟩
  · rw [if_neg u]
    rcases fVar_c σ (nI j) with y | ⟨v, v1, v2, v3⟩
    · exact absurd y u
    · have n2 := h.nV.2
      have vo := hD v v1
      have ev : (nI v).toNatClampNeg = v := nI_clamp (by omega)
      rw [v2, ev]
      refine y_ci (c135 xs (d + 1) h vo) (by omega) ⟨fun w => ?_, fun w => ?_⟩
      · rw [if_neg (fun y => y w)]
        refine y_ci (c136 xs d h vo) (by omega) ⟨fun z => ?_, fun z => ?_⟩
        · rw [if_neg z]
          refine y_ci (c146 xs d h hA vo) (by omega) ⟨fun q => ⟨x1, ?_⟩, fun q => ?_⟩
          · rw [if_neg (fun y => y q)]
            generalize tyV σ v = t
            have h1 := h.sV n (nI v)
            have k1 : KR m (y_si m 5 n (nI v)) := (KR.re m).si (by omega)
            have p1 := hA.si (k := 5) (i := n) (v := nI v) (by omega)
            generalize y_si m 5 n (nI v) = m1 at h1 k1 p1 ⊢
            generalize setV σ n (nI v) = τ at h1 ⊢
            unfold lkForP
            have s151 : ∀ bb : Bool, bb = false → yP (xg xs) (d + 3) 158 151 [(0, .ref 31), (1, .int (nI n))] [] m1 (LQ F A m (if bb = true ∨ stp τ n = 0 ∨ ¬ lg_cmp (tms τ n) 1000000 ≤ 0 then .inr 36 else .inl τ)) := by
              intro bb hbb
              subst hbb
              refine w158_151 xs (d + 2) _ m1 _ (y_ci (c159 xs (d + 1) h1 hn) (by omega) ⟨fun r => ?_, fun r => ?_⟩)
              · rw [if_pos (Or.inr (Or.inl r))]
                exact ⟨k1, rfl, by decide⟩
              · refine y_cl (c160 xs d h1 hn) (by omega) ⟨fun s => ?_, fun s => ?_⟩
                · rw [if_neg (fun y => y.elim (fun y => absurd y (by decide)) (fun y => y.elim r (fun y => y s)))]
                  exact ⟨k1, rfl, h1, p1⟩
                · rw [if_pos (Or.inr (Or.inr s))]
                  exact ⟨k1, rfl, by decide⟩
            have lp : ∀ (k i : Nat), i + k = n + 4 → yP (xg xs) (d + 3) 158 87 [(0, .ref 31), (1, .int (nI n)), (3, .int t), (5, .int (nI i))] [] m1 (LQ F A m (if frK τ t k i = true ∨ stp τ n = 0 ∨ ¬ lg_cmp (tms τ n) 1000000 ≤ 0 then .inr 36 else .inl τ)) := by
              intro k
              induction k with
              | zero =>
                intro i hi
                refine w158_87 xs (d + 2) _ _ _ m1 _ ⟨x_in_nI (by omega) (by decide), fun _ => s151 _ rfl, fun _ => ⟨fun _ => s151 _ rfl, fun r => absurd ?_ r⟩⟩
                rw [show nI n + 3 = nI (n + 3) from nI_add n 3]
                exact nI_lt (by omega) (by omega)
              | succ k ih =>
                intro i hi
                have ti := h1.t (show i < F.length by omega)
                have xi : x_in (nI i) 16401 = true := x_in_nI (by omega) (by decide)
                have ei : (nI i).toNatClampNeg = i := nI_clamp (by omega)
                have es : frK τ t (k + 1) i = if τ.2.2.1 i = 11 then false else if τ.2.2.1 i = 31 ∨ ¬ rgP (τ.2.2.2.1 i) t then true else frK τ t k (i + 1) := rfl
                refine w158_87 xs (d + 2) _ _ _ m1 _ ⟨xi, ?_⟩
                rw [ei, ti.1, ti.2.2.1]
                refine ⟨fun r => s151 _ (by rw [es, if_pos r]), fun r => ⟨fun s => ?_, fun _ => ⟨xi, fun s => ?_, fun s => ⟨xi, ?_⟩⟩⟩⟩
                · rw [show nI n + 3 = nI (n + 3) from nI_add n 3] at s
                  exact absurd ((nI_ltI (by omega) (by omega)).mp s) (by omega)
                · rw [if_pos (Or.inl (by rw [es, if_neg r, if_pos (Or.inl s)]))]
                  exact ⟨k1, rfl, by decide⟩
                · refine y_ci (c128 xs (d + 1) m1 _ _) (by omega) ⟨fun o => ?_, fun o => ?_⟩
                  · have es2 : frK τ t (k + 1) i = frK τ t k (i + 1) := by rw [es, if_neg r, if_neg (fun y => y.elim s (fun y => y (if1 o)))]
                    rw [es2, nI_1]
                    exact ih (i + 1) (by omega)
                  · rw [if_pos (Or.inl (by rw [es, if_neg r, if_pos (Or.inr (if0 o))]))]
                    exact ⟨k1, rfl, by decide⟩
            rw [nI_1]
            exact lp 3 (n + 1) (by omega)
          · rw [if_pos q]
            exact LQ.no m q
        · rw [if_pos z]
          exact LQ.no m (by decide)
      · rw [if_pos w]
        exact LQ.no m (by decide)
  · rw [if_pos u]
    exact LQ.no m (by decide)
def lkCoil (F : List ND) (σ : RS) (A : List Nat) (n : Nat) : RS ⊕ Int32 := if ¬ n + szF F n = fPar A + szF F (fPar A) then .inr 39 else if ¬ σ.2.2.2.2 (n + 1) = 0 then .inr 41 else if ¬ fAs σ A (σ.2.2.2.1 (n + 1)).toNatClampNeg = 0 then .inr (fAs σ A (σ.2.2.2.1 (n + 1)).toNatClampNeg) else .inl σ
theorem c145 (xs : List Int32) (d : Nat) {F : List ND} {σ : RS} {A : List Nat} {m : yM} (h : CR F σ m) (hA : PH F A m) {n v : Nat} (hn : n + 1 < F.length) (hp : fPar A < F.length) (hv : σ.2.2.2.1 (n + 1) = nI v) (vo : vOk σ v) : yC (xg xs) (d + 3) 145 [.ref 31, .int (nI n)] m (LQ F A m (lkCoil F σ A n)) := by
  have hf := h.f
  have n2 := h.nV.2
  have vl := (h.v vo).1
  have t0 := h.t (show n < F.length by omega)
  have t1 := h.t hn
  have tp := h.t hp
  have e : (nI n).toNatClampNeg = n := nI_clamp (by omega)
  have e1 : (nI n + 1).toNatClampNeg = n + 1 := by rw [nI_1]; exact nI_clamp (by omega)
  have ep : (nI (fPar A)).toNatClampNeg = fPar A := nI_clamp (by omega)
  have x1 : x_in (nI n) 16401 = true := x_in_nI (by omega) (by decide)
  have x2 : x_in (nI n + 1) 16401 = true := by rw [nI_1]; exact x_in_nI (by omega) (by decide)
  unfold lkCoil
  rw [hv, nI_clamp (by omega)]
  refine w145_0 xs (d + 2) _ m _ ⟨x1, y_ci (c124 xs (d + 1) hA) (by omega) ⟨x_in_nI (by omega) (by decide), ?_⟩⟩
  rw [e, ep, e1, t0.2.2.2.2.1, tp.2.2.2.2.1, t1.2.2.2.1, t1.2.2.1, hv]
  have eq : nI (n + szF F n) = nI (fPar A + szF F (fPar A)) ↔ n + szF F n = fPar A + szF F (fPar A) := nI_eq (by omega) (by omega)
  refine ⟨fun u => ⟨x2, fun w => ⟨x2, ?_⟩, fun w => ?_⟩, fun u => ?_⟩
  · rw [if_neg (fun y => y (eq.mp u)), if_neg (fun y => y w)]
    refine yC.mono (by omega) (fun r m' q => ?_) (c146 xs d h hA vo)
    obtain ⟨rfl, rfl⟩ := q
    refine ⟨_, rfl, ?_⟩
    by_cases z : fAs σ A v = 0
    · rw [if_neg (fun y => y z), z]
      exact LQ.ok h hA
    · rw [if_pos z]
      exact LQ.no _ z
  · rw [if_neg (fun y => y (eq.mp u)), if_pos w]
    exact LQ.no m (by decide)
  · rw [if_pos (fun y => u (eq.mpr y))]
    exact LQ.no m (by decide)
/-- the node two above -/
def fPar2 (A : List Nat) : Nat := if 1 < A.length then A.getD (A.length - 2) 0 else 0
def lkLink (F : List ND) (σ : RS) (A : List Nat) : RS ⊕ Int32 := if fPar A + szF F (fPar A) = fPar2 A + szF F (fPar2 A) then .inr 40 else .inl σ
theorem c147 (xs : List Int32) (d : Nat) {F : List ND} {σ : RS} {A : List Nat} {m : yM} (h : CR F σ m) (hA : PH F A m) (hp : fPar A < F.length) (hp2 : fPar2 A < F.length) : yC (xg xs) (d + 2) 147 [.ref 31] m (LQ F A m (lkLink F σ A)) := by
  have hf := h.f
  have tp := h.t hp
  have tq := h.t hp2
  have ep : (nI (fPar A)).toNatClampNeg = fPar A := nI_clamp (by omega)
  have eq2 : (nI (fPar2 A)).toNatClampNeg = fPar2 A := nI_clamp (by omega)
  have s23 : yP (xg xs) (d + 2) 147 23 [(0, .ref 31)] [.int (nI (fPar2 A))] m (LQ F A m (lkLink F σ A)) := by
    refine w147_23 xs (d + 1) _ m _ (y_ci (c124 xs d hA) (by omega) ⟨x_in_nI (by omega) (by decide), x_in_nI (by omega) (by decide), ?_⟩)
    rw [ep, eq2, tp.2.2.2.2.1, tq.2.2.2.2.1]
    have eq : nI (fPar A + szF F (fPar A)) = nI (fPar2 A + szF F (fPar2 A)) ↔ fPar A + szF F (fPar A) = fPar2 A + szF F (fPar2 A) := nI_eq (by omega) (by omega)
    unfold lkLink
    refine ⟨fun u => ?_, fun u => ?_⟩
    · rw [if_neg (fun y => u (eq.mpr y))]
      exact LQ.ok h hA
    · rw [if_pos (eq.mp u)]
      exact LQ.no m (by decide)
  obtain ⟨h1, h2, h3⟩ := hA
  by_cases z : 1 < A.length
  · have ec : nI A.length - 2 = nI (A.length - 2) := nI_sub (b := 2) (by omega)
    refine w147_0 xs (d + 1) m _ ⟨fun u => ?_, fun _ => ⟨?_, ?_⟩⟩
    · rw [h2] at u
      exact absurd ((nI_leI (b := 1) (by omega) (by omega)).mp u) (by omega)
    · rw [h2, ec]
      exact x_in_nI (by omega) (by decide)
    · rw [h2, ec, nI_clamp (by omega), (h3 (A.length - 2) _ (getD_some (by omega))).1]
      have e2 : fPar2 A = A.getD (A.length - 2) 0 := by unfold fPar2; rw [if_pos z]
      rw [← e2]
      exact s23
  · refine w147_0 xs (d + 1) m _ ⟨fun _ => ?_, fun u => absurd ?_ u⟩
    · have e2 : fPar2 A = 0 := by unfold fPar2; rw [if_neg z]
      rw [e2] at s23
      exact s23
    · rw [h2]
      exact nI_le (b := 1) (by omega) (by omega)
