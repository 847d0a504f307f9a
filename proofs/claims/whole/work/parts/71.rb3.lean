/-! RULES: a declaration of the class -/
/-- the variables from v on get their types and cells -/
def dsL (at_ : Int32) (tn : Nat) (sec ini : Int32) : Nat → Nat → RS → RS
  | 0 => fun _ σ => σ
  | k + 1 => fun v σ => dsL at_ tn sec ini k (v + 1) (if at_ = -1 then setC (setVr σ v (sec, tn, ini, (curB σ).2.2.2.1)) (σ.1.length - 1) ((curB σ).2.2.2.1 + szT (setVr σ v (sec, tn, ini, (curB σ).2.2.2.1)) tn) else setVr σ v (sec, tn, ini, at_))
theorem KR.ph {F : List ND} {A : List Nat} {m m' : yM} (k : KR m m') (h : PH F A m) : PH F A m' := by
  refine ⟨h.1, ?_, fun i x hi => ?_⟩
  · rw [k.1 31 6 (by omega)]; exact h.2.1
  · rw [k.1 32 i (by omega)]; exact h.2.2 i x hi
theorem c129 (xs : List Int32) (d : Nat) {F : List ND} {σ : RS} {m : yM} (h : CR F σ m) (h0 : 0 < σ.1.length) {nn tn : Nat} {at_ sec ini : Int32} (hnn : nn ≤ σ.2.1.length) (ht : tn < F.length) (hb : ¬ σ.2.2.1 tn = 8 → ¬ σ.2.2.1 tn = 9 → blT σ (σ.2.2.2.1 tn)) : yC (xg xs) (d + 2) 129 [.ref 18, .int (nI nn), .int at_, .int (nI tn), .int sec, .int ini] m (fun r m' => r = none ∧ (KR m m' ∧ CR F (dsL at_ tn sec ini nn (σ.2.1.length - nn) σ) m')) := by
  have hf := h.f
  have n2 := h.nV.2
  have lp : ∀ (k v : Nat) (τ : RS) (m1 : yM), v + k = σ.2.1.length → τ.1.length = σ.1.length → τ.2.1.length = σ.2.1.length → τ.2.2 = σ.2.2 → CR F τ m1 → KR m m1 → yP (xg xs) (d + 2) 129 12 [(0, .ref 18), (2, .int at_), (3, .int (nI tn)), (4, .int sec), (5, .int ini), (6, .int (nI v))] [] m1 (fun r m' => r = none ∧ (KR m m' ∧ CR F (dsL at_ tn sec ini k v τ) m')) := by
    intro k
    induction k with
    | zero =>
      intro v τ m1 hk l1 l2 l3 hc hk1
      refine w129_12 xs (d + 1) _ _ _ _ _ m1 _ ⟨fun _ => ⟨rfl, hk1, hc⟩, fun u => absurd ?_ u⟩
      rw [hc.nV.1, l2]
      exact nI_le (by omega) (by omega)
    | succ k ih =>
      intro v τ m1 hk l1 l2 l3 hc hk1
      have nb := hc.nB.2
      have vl : v < τ.2.1.length := by omega
      have ev : (nI v).toNatClampNeg = v := nI_clamp (by omega)
      have xv : x_in (nI v) 4097 = true := x_in_nI (by omega) (by decide)
      have b0 : 0 < τ.1.length := by omega
      have bl : τ.1.length - 1 < τ.1.length := by omega
      have eb : (nI (τ.1.length - 1)).toNatClampNeg = τ.1.length - 1 := nI_clamp (by omega)
      have xb : x_in (nI (τ.1.length - 1)) 512 = true := x_in_nI (by omega) (by decide)
      -- the four fields written
      have ds : ∀ c : Int32, CR F (setVr τ v (sec, tn, ini, c)) (y_si (y_si (y_si (y_si (y_si m1 21 v (nI tn)) 22 v sec) 23 v ini) 20 v 0) 20 v c) := by
        intro c
        refine hc.sVr vl ht (fun a i u => ?_) ?_ ?_ ?_ ?_
        · rw [y_si_at, if_neg (by omega), y_si_at, if_neg (by omega), y_si_at, if_neg (by omega), y_si_at, if_neg (by omega), y_si_at, if_neg (by omega)]
        · rw [y_si_at, if_neg (by omega), y_si_at, if_neg (by omega), y_si_at, if_neg (by omega), y_si_at, if_pos ⟨rfl, rfl⟩]
        · rw [y_si_at, if_neg (by omega), y_si_at, if_neg (by omega), y_si_at, if_neg (by omega), y_si_at, if_neg (by omega), y_si_at, if_pos ⟨rfl, rfl⟩]
        · rw [y_si_at, if_neg (by omega), y_si_at, if_neg (by omega), y_si_at, if_pos ⟨rfl, rfl⟩]
        · rw [y_si_at, if_pos ⟨rfl, rfl⟩]
      have kk : ∀ c : Int32, KR m (y_si (y_si (y_si (y_si (y_si m1 21 v (nI tn)) 22 v sec) 23 v ini) 20 v 0) 20 v c) := fun c => ((((hk1.si (by omega)).si (by omega)).si (by omega)).si (by omega)).si (by omega)
      have c130 : yC (xg xs) (d + 1) 130 [.ref 18, .int (nI v), .int (nI tn), .int sec, .int ini] m1 (fun r m' => r = none ∧ m' = y_si (y_si (y_si (y_si m1 21 v (nI tn)) 22 v sec) 23 v ini) 20 v 0) := by
        refine w130_0 xs d _ _ _ _ m1 _ ⟨xv, xv, xv, xv, rfl, ?_⟩
        rw [ev]
      refine w129_12 xs (d + 1) _ _ _ _ _ m1 _ ⟨fun u => ?_, fun _ => ?_⟩
      · rw [hc.nV.1] at u
        exact absurd ((nI_leI (by omega) (by omega)).mp u) (by omega)
      refine y_cv c130 (by omega) ?_
      have es : dsL at_ tn sec ini (k + 1) v τ = dsL at_ tn sec ini k (v + 1) (if at_ = -1 then setC (setVr τ v (sec, tn, ini, (curB τ).2.2.2.1)) (τ.1.length - 1) ((curB τ).2.2.2.1 + szT (setVr τ v (sec, tn, ini, (curB τ).2.2.2.1)) tn) else setVr τ v (sec, tn, ini, at_)) := rfl
      rw [es]
      refine ⟨fun u => ⟨xv, ?_⟩, fun u => ?_⟩
      · rw [ev, if_neg u]
        refine w129_81 xs (d + 1) _ _ _ _ _ _ _ ?_
        rw [nI_1]
        exact ih (v + 1) _ _ (by omega) l1 (by rw [← l2]; exact List.length_set) l3 (ds at_) (kk at_)
      · rw [if_pos u]
        -- the state of the four fields alone has the same blocks
        have cc : (y_si (y_si (y_si (y_si m1 21 v (nI tn)) 22 v sec) 23 v ini) 20 v 0).1 26 (τ.1.length - 1) = (curB τ).2.2.2.1 := by
          rw [y_si_at, if_neg (by omega), y_si_at, if_neg (by omega), y_si_at, if_neg (by omega), y_si_at, if_neg (by omega)]
          exact (hc.b bl).2.2.1
        have d0 : CR F (setVr τ v (sec, tn, ini, 0)) (y_si (y_si (y_si (y_si m1 21 v (nI tn)) 22 v sec) 23 v ini) 20 v 0) := by
          refine hc.sVr vl ht (fun a i w => ?_) ?_ ?_ ?_ ?_
          · rw [y_si_at, if_neg (by omega), y_si_at, if_neg (by omega), y_si_at, if_neg (by omega), y_si_at, if_neg (by omega)]
          · rw [y_si_at, if_neg (by omega), y_si_at, if_neg (by omega), y_si_at, if_pos ⟨rfl, rfl⟩]
          · rw [y_si_at, if_neg (by omega), y_si_at, if_neg (by omega), y_si_at, if_neg (by omega), y_si_at, if_pos ⟨rfl, rfl⟩]
          · rw [y_si_at, if_neg (by omega), y_si_at, if_pos ⟨rfl, rfl⟩]
          · rw [y_si_at, if_pos ⟨rfl, rfl⟩]
        refine y_ci (c116 xs d d0 b0) (by omega) ?_
        show x_in (nI (τ.1.length - 1)) 512 = true ∧ _
        refine ⟨xb, xv, ?_⟩
        have e9 : (nI ((setVr τ v (sec, tn, ini, 0)).1.length - 1)).toNatClampNeg = τ.1.length - 1 := eb
        rw [e9, ev, cc]
        have d1 := ds (curB τ).2.2.2.1
        have k1 := kk (curB τ).2.2.2.1
        generalize y_si (y_si (y_si (y_si (y_si m1 21 v (nI tn)) 22 v sec) 23 v ini) 20 v 0) 20 v (curB τ).2.2.2.1 = m2 at d1 k1 ⊢
        refine y_ci (c116 xs d d1 b0) (by omega) ?_
        show x_in (nI (τ.1.length - 1)) 512 = true ∧ _
        refine ⟨xb, ?_⟩
        have hb1 : ¬ (setVr τ v (sec, tn, ini, (curB τ).2.2.2.1)).2.2.1 tn = 8 → ¬ (setVr τ v (sec, tn, ini, (curB τ).2.2.2.1)).2.2.1 tn = 9 → blT (setVr τ v (sec, tn, ini, (curB τ).2.2.2.1)) ((setVr τ v (sec, tn, ini, (curB τ).2.2.2.1)).2.2.2.1 tn) := by
          intro q1 q2
          have e22 : (setVr τ v (sec, tn, ini, (curB τ).2.2.2.1)).2.2 = σ.2.2 := l3
          rw [e22] at q1 q2 ⊢
          obtain ⟨x, x1, x2⟩ := hb q1 q2
          exact ⟨x, x1, by rw [show (setVr τ v (sec, tn, ini, (curB τ).2.2.2.1)).1.length = σ.1.length from l1]; exact x2⟩
        refine y_ci (c131 xs d d1 ht hb1) (by omega) ?_
        show x_in (nI (τ.1.length - 1)) 512 = true ∧ _
        refine ⟨xb, ?_⟩
        have e10 : (nI ((setVr τ v (sec, tn, ini, (curB τ).2.2.2.1)).1.length - 1)).toNatClampNeg = τ.1.length - 1 := eb
        have c2 : m2.1 26 (τ.1.length - 1) = (curB τ).2.2.2.1 := (d1.b bl).2.2.1
        rw [e10, c2]
        refine w129_81 xs (d + 1) _ _ _ _ _ _ _ ?_
        rw [nI_1]
        exact ih (v + 1) _ _ (by omega) (by rw [← l1]; exact List.length_set) (by rw [← l2]; exact List.length_set) l3 (d1.sC bl _) (k1.si (by omega))
  refine w129_0 xs (d + 1) _ _ _ _ _ m _ ?_
  have em : (if (0 : Int32) < m.1 18 15 - nI nn then m.1 18 15 - nI nn else 0) = nI (σ.2.1.length - nn) := by
    rw [h.nV.1, nI_sub hnn]
    by_cases z : σ.2.1.length - nn = 0
    · rw [z]; rfl
    · rw [if_pos (show (0 : Int32) < nI (σ.2.1.length - nn) from nI_lt (a := 0) (by omega) (by omega))]
  rw [em]
  exact lp nn (σ.2.1.length - nn) σ m (by omega) rfl rfl rfl h (KR.re m)
abbrev smT (σ : RS) (i : Nat) : Int32 := if σ.2.2.1 i = 9 then σ.2.2.2.2 i else σ.2.2.2.1 i
abbrev mbP (σ : RS) (i c : Nat) : Prop := ¬ σ.2.2.1 i = 10 ∧ (if σ.2.2.1 c = 31 ∨ smT σ i = 0 then (σ.2.2.1 c = 31 ∧ smT σ i = 0) else rgP (σ.2.2.2.1 c) (smT σ i))
theorem c127 (xs : List Int32) (d : Nat) {F : List ND} {σ : RS} {m : yM} (h : CR F σ m) {i c : Nat} (hi : i < F.length) (hc : c < F.length) : yC (xg xs) (d + 2) 127 [.ref 31, .int (nI i), .int (nI c)] m (fun r m' => r = some (.int (if mbP σ i c then 1 else 0)) ∧ m' = m) := by
  have hf := h.f
  have ti := h.t hi
  have tc := h.t hc
  have ei : (nI i).toNatClampNeg = i := nI_clamp (by omega)
  have ec : (nI c).toNatClampNeg = c := nI_clamp (by omega)
  have xi : x_in (nI i) 16401 = true := x_in_nI (by omega) (by decide)
  have xc : x_in (nI c) 16401 = true := x_in_nI (by omega) (by decide)
  have s70 : ¬ σ.2.2.1 i = 10 → (σ.2.2.1 c = 31 ∨ smT σ i = 0) → yP (xg xs) (d + 2) 127 70 [(0, .ref 31), (2, .int (nI c)), (3, .int (smT σ i))] [] m (fun r m' => r = some (.int (if mbP σ i c then 1 else 0)) ∧ m' = m) := by
    intro n10 p
    refine w127_70 xs (d + 1) _ _ m _ ⟨xc, ?_⟩
    rw [ec, tc.1]
    refine ⟨fun u => ⟨?_, rfl⟩, fun u => ⟨fun v => ⟨?_, rfl⟩, fun v => ⟨?_, rfl⟩⟩⟩
    · rw [if_neg (show ¬ mbP σ i c from fun y => by have := y.2; rw [if_pos p] at this; exact u this.1)]
    · rw [if_neg (show ¬ mbP σ i c from fun y => by have := y.2; rw [if_pos p] at this; exact v this.2)]
    · rw [if_pos (show mbP σ i c from ⟨n10, by rw [if_pos p]; exact ⟨u, v⟩⟩)]
  have s51 : ¬ σ.2.2.1 i = 10 → ∀ b : Int32, b = smT σ i → yP (xg xs) (d + 2) 127 51 [(0, .ref 31), (2, .int (nI c))] [.int b] m (fun r m' => r = some (.int (if mbP σ i c then 1 else 0)) ∧ m' = m) := by
    intro n10 b hb
    subst hb
    refine w127_51 xs (d + 1) _ _ m _ ⟨xc, ?_⟩
    rw [ec, tc.1, tc.2.2.1]
    refine ⟨fun u => s70 n10 (Or.inl u), fun u => ⟨fun v => ⟨xc, ?_⟩, fun v => s70 n10 (Or.inr v)⟩⟩
    have np : ¬ (σ.2.2.1 c = 31 ∨ smT σ i = 0) := fun y => y.elim u v
    refine y_ci (c128 xs d m _ _) (by omega) ⟨?_, ?_, rfl⟩
    · split
      · exact Or.inr rfl
      · exact Or.inl rfl
    · by_cases z : rgP (σ.2.2.2.1 c) (smT σ i)
      · rw [if_pos z, if_pos (show mbP σ i c from ⟨n10, by rw [if_neg np]; exact z⟩)]
      · rw [if_neg z, if_neg (show ¬ mbP σ i c from fun y => by have := y.2; rw [if_neg np] at this; exact z this)]
  refine w127_0 xs (d + 1) _ _ m _ ⟨xi, ?_⟩
  rw [ei, ti.1, ti.2.2.1, ti.2.2.2.1]
  refine ⟨fun u => ⟨xi, fun v => ⟨xi, ?_⟩, fun v => ⟨xi, ?_⟩⟩, fun u => ⟨?_, rfl⟩⟩
  · exact s51 u _ (if_neg v).symm
  · exact s51 u _ (if_pos v).symm
  · rw [if_neg (show ¬ mbP σ i c from fun y => y.1 u)]
