/-! RULES: a declaration of the class, all of it -/
/-- behind the names of a declaration -/
def skN (σ : RS) (e : Nat) : Nat → Nat → Nat
  | 0 => fun i => i
  | k + 1 => fun i => if i < e ∧ σ.2.2.1 i = 6 then skN σ e k (i + 1) else i
def dcT0 (F : List ND) (σ : RS) (n : Nat) : Nat := skN σ (n + szF F n) (szF F n) (n + 1)
def dcAt (F : List ND) (σ : RS) (n : Nat) : Int32 := if σ.2.2.1 (dcT0 F σ n) = 7 then σ.2.2.2.1 (dcT0 F σ n) else -1
def dcT (F : List ND) (σ : RS) (n : Nat) : Nat := if σ.2.2.1 (dcT0 F σ n) = 7 then dcT0 F σ n + 1 else dcT0 F σ n
abbrev hasC (F : List ND) (σ : RS) (n : Nat) : Prop := dcT F σ n + szF F (dcT F σ n) < n + szF F n
abbrev fpP (σ : RS) (t : Nat) (c : Int32) : Prop := σ.2.2.1 t = 8 ∧ σ.2.2.2.1 t = (if 768 ≤ c then 1 else 0)
def dcIni (F : List ND) (σ : RS) (n : Nat) : Int32 := if hasC F σ n then σ.2.2.2.1 (dcT F σ n + szF F (dcT F σ n)) else 0
def dcS (F : List ND) (σ : RS) (A : List Nat) (n : Nat) : RS := dsL (dcAt F σ n) (dcT F σ n) (σ.2.2.2.1 (fPar A)) (dcIni F σ n) (dcT0 F σ n - n - 1) (σ.2.1.length - (dcT0 F σ n - n - 1)) σ
def lkDcl (F : List ND) (σ : RS) (A : List Nat) (n : Nat) : RS ⊕ Int32 :=
  if ¬ σ.2.2.2.1 (fPar A) = 0 ∧ ¬ σ.2.2.1 (dcT F σ n) = 8 then .inr 43
  else if ¬ dcAt F σ n = -1 ∧ ¬ fpP σ (dcT F σ n) (dcAt F σ n) then .inr 15
  else if hasC F σ n ∧ (rdP (dcAt F σ n) ∨ ¬ mbP σ (dcT F σ n) (dcT F σ n + szF F (dcT F σ n))) then .inr 18
  else if ¬ (curB (dcS F σ A n)).2.2.2.1 ≤ 4096 then .inr 19 else .inl (dcS F σ A n)
theorem dsL_len (at_ : Int32) (tn : Nat) (sec ini : Int32) : ∀ (k v : Nat) (σ : RS), (dsL at_ tn sec ini k v σ).1.length = σ.1.length ∧ (dsL at_ tn sec ini k v σ).2.1.length = σ.2.1.length ∧ (dsL at_ tn sec ini k v σ).2.2 = σ.2.2
  | 0, v, σ => ⟨rfl, rfl, rfl⟩
  | k + 1, v, σ => by
    obtain ⟨h1, h2, h3⟩ := dsL_len at_ tn sec ini k (v + 1) (if at_ = -1 then setC (setVr σ v (sec, tn, ini, (curB σ).2.2.2.1)) (σ.1.length - 1) ((curB σ).2.2.2.1 + szT (setVr σ v (sec, tn, ini, (curB σ).2.2.2.1)) tn) else setVr σ v (sec, tn, ini, at_))
    have es : dsL at_ tn sec ini (k + 1) v σ = dsL at_ tn sec ini k (v + 1) (if at_ = -1 then setC (setVr σ v (sec, tn, ini, (curB σ).2.2.2.1)) (σ.1.length - 1) ((curB σ).2.2.2.1 + szT (setVr σ v (sec, tn, ini, (curB σ).2.2.2.1)) tn) else setVr σ v (sec, tn, ini, at_)) := rfl
    rw [es]
    refine ⟨h1.trans ?_, h2.trans ?_, h3.trans ?_⟩
    · split
      · exact List.length_set
      · rfl
    · split
      · exact List.length_set
      · exact List.length_set
    · split <;> rfl
theorem skN_b (σ : RS) (e : Nat) : ∀ (k i : Nat), i ≤ skN σ e k i ∧ (i ≤ e → skN σ e k i ≤ e)
  | 0, i => ⟨Nat.le_refl _, fun h => h⟩
  | k + 1, i => by
    have es : skN σ e (k + 1) i = if i < e ∧ σ.2.2.1 i = 6 then skN σ e k (i + 1) else i := rfl
    rw [es]
    split
    · rename_i z
      have := skN_b σ e k (i + 1)
      exact ⟨by omega, fun _ => this.2 (by omega)⟩
    · exact ⟨Nat.le_refl _, fun h => h⟩
theorem c123 (xs : List Int32) (d : Nat) {F : List ND} {σ : RS} {A : List Nat} {m : yM} (h : CR F σ m) (hA : PH F A m) (h0 : 0 < σ.1.length) {n : Nat} (hn : n < F.length) (hp : fPar A < F.length) (ht0 : dcT0 F σ n < F.length) (ht : dcT F σ n < F.length) (hnn : dcT0 F σ n - n - 1 ≤ σ.2.1.length) (hb : ¬ σ.2.2.1 (dcT F σ n) = 8 → ¬ σ.2.2.1 (dcT F σ n) = 9 → blT σ (σ.2.2.2.1 (dcT F σ n))) : yC (xg xs) (d + 3) 123 [.ref 31, .int (nI n)] m (LQ F A m (lkDcl F σ A n)) := by
  have hf := h.f
  have nb := h.nB.2
  have tn := h.t hn
  have tp := h.t hp
  have t0 := h.t ht0
  have tt := h.t ht
  have e : (nI n).toNatClampNeg = n := nI_clamp (by omega)
  have ep : (nI (fPar A)).toNatClampNeg = fPar A := nI_clamp (by omega)
  have e0 : (nI (dcT0 F σ n)).toNatClampNeg = dcT0 F σ n := nI_clamp (by omega)
  have et : (nI (dcT F σ n)).toNatClampNeg = dcT F σ n := nI_clamp (by omega)
  have x1 : x_in (nI n) 16401 = true := x_in_nI (by omega) (by decide)
  have x0 : x_in (nI (dcT0 F σ n)) 16401 = true := x_in_nI (by omega) (by decide)
  have xt : x_in (nI (dcT F σ n)) 16401 = true := x_in_nI (by omega) (by decide)
  have sb := (skN_b σ (n + szF F n) (szF F n) (n + 1)).1
  have sb : n + 1 ≤ dcT0 F σ n := sb
  have enn : nI (dcT0 F σ n) - nI n - 1 = nI (dcT0 F σ n - n - 1) := by
    rw [nI_sub (by omega)]
    exact nI_sub (b := 1) (by omega)
  generalize hsec : σ.2.2.2.1 (fPar A) = sec
  -- from describing on
  have s221 : ¬ (¬ sec = 0 ∧ ¬ σ.2.2.1 (dcT F σ n) = 8) → ¬ (¬ dcAt F σ n = -1 ∧ ¬ fpP σ (dcT F σ n) (dcAt F σ n)) → ¬ (hasC F σ n ∧ (rdP (dcAt F σ n) ∨ ¬ mbP σ (dcT F σ n) (dcT F σ n + szF F (dcT F σ n)))) → yP (xg xs) (d + 3) 123 221 [(0, .ref 31)] [.int (dcIni F σ n), .int sec, .int (nI (dcT F σ n)), .int (dcAt F σ n), .int (nI (dcT0 F σ n - n - 1)), .ref 18] m (LQ F A m (lkDcl F σ A n)) := by
    intro p1 p2 p3
    unfold lkDcl
    rw [hsec, if_neg p1, if_neg p2, if_neg p3]
    refine w123_221 xs (d + 2) _ _ _ _ _ m _ (y_nx (c129 xs d h h0 hnn ht hb) (by omega) (fun m1 q => ?_))
    obtain ⟨k1, c1⟩ := q
    have ed : dsL (dcAt F σ n) (dcT F σ n) sec (dcIni F σ n) (dcT0 F σ n - n - 1) (σ.2.1.length - (dcT0 F σ n - n - 1)) σ = dcS F σ A n := by unfold dcS; rw [hsec]
    rw [ed] at c1
    have l1 : (dcS F σ A n).1.length = σ.1.length := (dsL_len _ _ _ _ _ _ _).1
    refine y_ci (c116 xs (d + 1) c1 (by omega)) (by omega) ⟨x_in_nI (by omega) (by decide), ?_⟩
    rw [nI_clamp (by omega), (c1.b (show (dcS F σ A n).1.length - 1 < (dcS F σ A n).1.length by omega)).2.2.1]
    refine ⟨fun u => ?_, fun u => ?_⟩
    · rw [if_neg (fun y => y u)]
      exact ⟨k1, rfl, c1, k1.ph hA⟩
    · rw [if_pos (show ¬ (curB (dcS F σ A n)).2.2.2.1 ≤ 4096 from u)]
      exact ⟨k1, rfl, by decide⟩
  -- from the constant on
  have s128 : ¬ (¬ sec = 0 ∧ ¬ σ.2.2.1 (dcT F σ n) = 8) → ¬ (¬ dcAt F σ n = -1 ∧ ¬ fpP σ (dcT F σ n) (dcAt F σ n)) → yP (xg xs) (d + 3) 123 128 [(0, .ref 31), (1, .int (nI n)), (2, .int sec), (3, .int (nI (dcT F σ n))), (4, .int (nI (dcT0 F σ n - n - 1))), (5, .int (dcAt F σ n))] [] m (LQ F A m (lkDcl F σ A n)) := by
    intro p1 p2
    refine w123_128 xs (d + 2) _ _ _ _ _ m _ ⟨xt, x1, ?_⟩
    rw [e, et, tn.2.2.2.2.1, tt.2.2.2.2.1]
    refine ⟨fun u => ?_, fun u => ⟨xt, ?_⟩⟩
    · have nc : ¬ hasC F σ n := by
        have := (nI_leI (by omega) (by omega)).mp u
        unfold hasC
        omega
      refine w123_162 xs (d + 2) _ _ _ _ _ m _ ⟨fun _ => ?_, fun y => absurd rfl y⟩
      refine w123_191 xs (d + 2) _ _ _ _ _ m _ ⟨fun y => absurd rfl y, fun _ => ?_⟩
      have := s221 p1 p2 (fun y => nc y.1)
      rw [show dcIni F σ n = 0 from by unfold dcIni; rw [if_neg nc]] at this
      exact this
    · have hc : hasC F σ n := by
        rcases Nat.lt_or_ge (dcT F σ n + szF F (dcT F σ n)) (n + szF F n) with y | y
        · exact y
        · exact absurd (nI_le y (by omega)) u
      have cl : dcT F σ n + szF F (dcT F σ n) < F.length := by
        have : dcT F σ n + szF F (dcT F σ n) < n + szF F n := hc
        omega
      have tc := h.t cl
      have ecs : (nI (dcT F σ n + szF F (dcT F σ n))).toNatClampNeg = dcT F σ n + szF F (dcT F σ n) := nI_clamp (by omega)
      have m1 : ¬ nI (dcT F σ n + szF F (dcT F σ n)) = -1 := nI_m1 (by omega)
      have bad : (rdP (dcAt F σ n) ∨ ¬ mbP σ (dcT F σ n) (dcT F σ n + szF F (dcT F σ n))) → LQ F A m (lkDcl F σ A n) (some (.int 18)) m := by
        intro p
        unfold lkDcl
        rw [hsec, if_neg p1, if_neg p2, if_pos ⟨hc, p⟩]
        exact LQ.no m (by decide)
      refine w123_162 xs (d + 2) _ _ _ _ _ m _ ⟨fun y => absurd y m1, fun _ => ?_⟩
      refine y_ci (c126 xs (d + 1) m _) (by omega) ⟨fun v => bad (Or.inl (if1 v)), fun v => ?_⟩
      refine y_ci (c127 xs d h ht cl) (by omega) ⟨fun w => ?_, fun w => bad (Or.inr (if0 w))⟩
      refine w123_191 xs (d + 2) _ _ _ _ _ m _ ⟨fun _ => ⟨x_in_nI (by omega) (by decide), ?_⟩, fun y => absurd y m1⟩
      rw [ecs, tc.2.2.1]
      have := s221 p1 p2 (fun y => y.2.elim (if0 v) (fun y => y (if1 w)))
      rw [show dcIni F σ n = σ.2.2.2.1 (dcT F σ n + szF F (dcT F σ n)) from by unfold dcIni; rw [if_pos hc]] at this
      exact this
  have s88 : yP (xg xs) (d + 3) 123 88 [(0, .ref 31), (1, .int (nI n)), (2, .int sec), (3, .int (nI (dcT F σ n))), (4, .int (nI (dcT0 F σ n - n - 1))), (5, .int (dcAt F σ n))] [] m (LQ F A m (lkDcl F σ A n)) := by
    have s109 : ¬ (¬ sec = 0 ∧ ¬ σ.2.2.1 (dcT F σ n) = 8) → yP (xg xs) (d + 3) 123 109 [(0, .ref 31), (1, .int (nI n)), (2, .int sec), (3, .int (nI (dcT F σ n))), (4, .int (nI (dcT0 F σ n - n - 1))), (5, .int (dcAt F σ n))] [] m (LQ F A m (lkDcl F σ A n)) := by
      intro p1
      refine w123_109 xs (d + 2) _ _ _ _ _ m _ ⟨fun u => s128 p1 (fun y => y.1 u), fun u => ?_⟩
      refine y_ci (c125 xs (d + 1) h ht _) (by omega) ⟨fun v => s128 p1 (fun y => y.2 (if1 v)), fun v => ?_⟩
      unfold lkDcl
      rw [hsec, if_neg p1, if_pos ⟨u, if0 v⟩]
      exact LQ.no m (by decide)
    refine w123_88 xs (d + 2) _ _ _ _ _ m _ ⟨fun u => s109 (fun y => y.1 u), fun u => ⟨xt, ?_⟩⟩
    rw [et, tt.1]
    refine ⟨fun v => s109 (fun y => y.2 v), fun v => ?_⟩
    unfold lkDcl
    rw [hsec, if_pos ⟨u, v⟩]
    exact LQ.no m (by decide)
  have s50 : yP (xg xs) (d + 3) 123 50 [(0, .ref 31), (1, .int (nI n)), (2, .int sec), (3, .int (nI (dcT0 F σ n)))] [] m (LQ F A m (lkDcl F σ A n)) := by
    refine w123_50 xs (d + 2) _ _ _ m _ ⟨x0, ?_⟩
    rw [e0, t0.1, t0.2.2.1, enn]
    refine ⟨fun u => ?_, fun u => ⟨x0, ?_⟩⟩
    · rw [show dcT F σ n = dcT0 F σ n from by unfold dcT; rw [if_neg u], show dcAt F σ n = -1 from by unfold dcAt; rw [if_neg u]] at s88
      exact s88
    · rw [nI_1]
      rw [show dcT F σ n = dcT0 F σ n + 1 from by unfold dcT; rw [if_pos u], show dcAt F σ n = σ.2.2.2.1 (dcT0 F σ n) from by unfold dcAt; rw [if_pos u]] at s88
      exact s88
  have lp : ∀ (k i : Nat), n + szF F n ≤ i + k → i ≤ F.length → skN σ (n + szF F n) k i = dcT0 F σ n → yP (xg xs) (d + 3) 123 17 [(0, .ref 31), (1, .int (nI n)), (2, .int sec), (3, .int (nI i))] [] m (LQ F A m (lkDcl F σ A n)) := by
    intro k
    induction k with
    | zero =>
      intro i hi hi2 hs
      refine w123_17 xs (d + 2) _ _ _ m _ ⟨x1, ?_⟩
      rw [e, tn.2.2.2.2.1]
      have ei : i = dcT0 F σ n := hs
      rw [ei]
      exact ⟨fun _ => s50, fun u => absurd (nI_le (by omega) (by omega)) u⟩
    | succ k ih =>
      intro i hi hi2 hs
      have es : skN σ (n + szF F n) (k + 1) i = if i < n + szF F n ∧ σ.2.2.1 i = 6 then skN σ (n + szF F n) k (i + 1) else i := rfl
      rw [es] at hs
      refine w123_17 xs (d + 2) _ _ _ m _ ⟨x1, ?_⟩
      rw [e, tn.2.2.2.2.1]
      refine ⟨fun u => ?_, fun u => ?_⟩
      · have := (nI_leI (by omega) (by omega)).mp u
        rw [if_neg (by omega)] at hs
        rw [hs]
        exact s50
      · have lt : i < n + szF F n := by
          rcases Nat.lt_or_ge i (n + szF F n) with y | y
          · exact y
          · exact absurd (nI_le y (by omega)) u
        have ti := h.t (show i < F.length by omega)
        refine ⟨x_in_nI (by omega) (by decide), ?_⟩
        rw [nI_clamp (by omega), ti.1]
        refine ⟨fun v => ?_, fun v => ?_⟩
        · rw [if_neg (fun y => v y.2)] at hs
          rw [hs]
          exact s50
        · rw [if_pos ⟨lt, v⟩] at hs
          rw [nI_1]
          exact ih (i + 1) (by omega) (by omega) hs
  refine w123_0 xs (d + 2) _ m _ (y_ci (c124 xs (d + 1) hA) (by omega) ⟨x_in_nI (by omega) (by decide), ?_⟩)
  rw [ep, tp.2.2.1, nI_1, hsec]
  exact lp (szF F n) (n + 1) (by omega) (by omega) rfl
