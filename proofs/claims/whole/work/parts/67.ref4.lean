/-! TOKENS OF THE REFERENCE: places, blanks -/
theorem c288L (xs : List Int32) (d : Nat) (m : yM) {f : Nat → Nat} {n : Nat} (h : TY m f n) (l2 l3 : Int32) (Q : Option Value → yM → Prop) (E w : Nat) (K : yP (xg xs) (d + 3) 288 71 [(0, .ref 58), (2, .int l2), (3, .int l3), (4, .int (nI E)), (5, .long (lN w))] [] m Q) : ∀ q i v : Nat, i + q = n → rn f (isDg 10) q i = E → rvd f 10 q i v = w → (∃ a, Rr v a) → yP (xg xs) (d + 3) 288 71 [(0, .ref 58), (2, .int l2), (3, .int l3), (4, .int (nI i)), (5, .long (lN v))] [] m Q := by
  have h8 := h.2.1
  have hf := h.2.2
  intro q
  induction q with
  | zero =>
    intro i v hi h1 h2 _
    unfold rn at h1
    unfold rvd at h2
    rw [h1, h2]
    exact K
  | succ q ih =>
    intro i v hi h1 h2 h4
    have hi2 : i < n := by omega
    have g := (hf i hi2).1
    have hs1 : rn f (isDg 10) (q + 1) i = if isDg 10 (f i) then rn f (isDg 10) q (i + 1) else i := rfl
    have hs2 : rvd f 10 (q + 1) i v = if dN (f i) < 10 then rvd f 10 q (i + 1) (moN v 10 (dN (f i))) else v := rfl
    by_cases hd : dN (f i) < 10
    · rw [hs1, if_pos (by simpa using hd)] at h1
      rw [hs2, if_pos hd] at h2
      have hD := (dN_D _ g).mpr hd
      have dvl := dN_v _ g hD
      have e : rc f n i = nI (f i) := if_pos hi2
      refine w288_71 xs (d + 2) _ _ _ _ m _ ?_
      refine y_ci (c274x xs d m h i (by omega)) (by omega) ?_
      refine y_ci (c278 xs d m _) (by omega) ?_
      refine ⟨fun z => absurd ((rc_D (fun z => (hf _ z).1)).mpr ⟨hi2, hD⟩) (y_iff z), fun _ => ?_⟩
      refine y_ci (c274x xs d m h i (by omega)) (by omega) ?_
      rw [e, show nI (f i) - (48 : Int32) = nI (dN (f i)) by rw [dvl.1]; exact pk_sub dvl.2]
      obtain ⟨a, ha⟩ := h4
      refine y_cl (c281 xs d m _ _ _) (by omega) ?_
      rw [show mo_ (lN v) (10 : Int32) (nI (dN (f i))) = lN (moN v 10 (dN (f i))) from mo_N (b := 10) ha.1 (by decide) (by omega), nI_1]
      have hr := ha.mo (b := 10) (g := dN (f i)) (by decide) (by decide) (by omega)
      exact ih (i + 1) _ (by omega) h1 h2 ⟨_, hr⟩
    · rw [hs1, if_neg (by simpa using hd)] at h1
      rw [hs2, if_neg hd] at h2
      rw [h1, h2]
      exact K
theorem grN_eq {f : Nat → Nat} {n i k : Nat} (hk : k < 255) (h0 : 0 < k) (hf : i < n → f i < 256) : gr_ (rc f n i) = nI k ↔ grN f n i = k := by
  rw [rc_gr (by omega) h0 hf]
  unfold grN
  by_cases h : i < n
  · rw [if_pos h]
    exact ⟨fun z => z.2, fun z => ⟨h, z⟩⟩
  · rw [if_neg h]
    exact ⟨fun z => absurd z.1 h, fun z => by omega⟩
theorem c288 (xs : List Int32) (d : Nat) (m : yM) {f : Nat → Nat} {n : Nat} (h : TY m f n) (p : Nat) (h5 : m.1 58 5 = nI p) (hf0 : m.1 58 3 = 0) (hp : p < n) : yC (xg xs) (d + 3) 288 [.ref 58] m (rR m p (plT f n p (rn f (isDg 10) (n - (p + 3)) (p + 3)) (dv f 10 (n - (p + 3)) (p + 3) 0))) := by
  have h8 := h.2.1
  have hf := h.2.2
  have he := rn_le f (isDg 10) (n - (p + 3)) (p + 3)
  have hend := rn_end f (isDg 10) (n - (p + 3)) (p + 3)
  have hR := rvd_R f 10 (by decide) (by decide) (n - (p + 3)) (p + 3) 0 0 Rr.z
  have g88 := rc_gr (f := f) (n := n) (i := p + 2) (k := 88) (by decide) (by decide) (fun z => (hf _ z).1)
  have g87 := rc_gr (f := f) (n := n) (i := p + 2) (k := 87) (by decide) (by decide) (fun z => (hf _ z).1)
  have i73 := grN_eq (f := f) (n := n) (i := p + 1) (k := 73) (by decide) (by decide) (fun z => (hf _ z).1)
  have i81 := grN_eq (f := f) (n := n) (i := p + 1) (k := 81) (by decide) (by decide) (fun z => (hf _ z).1)
  have i77 := grN_eq (f := f) (n := n) (i := p + 1) (k := 77) (by decide) (by decide) (fun z => (hf _ z).1)
  have wl := wyN_le (grN f n (p + 1))
  -- the end, with the way told
  have main : ∀ way : Int32, way = (if wyN (grN f n (p + 1)) = 3 then -1 else nI (wyN (grN f n (p + 1)))) → yP (xg xs) (d + 2 + 1) 288 59 [(0, .ref 58), (2, .int (gr_ (rc f n (p + 2))))] [.int way] m (rR m p (plT f n p (rn f (isDg 10) (n - (p + 3)) (p + 3)) (dv f 10 (n - (p + 3)) (p + 3) 0))) := by
    intro way hway
    have e3 : nI p + (3 : Int32) = nI (p + 3) := nI_add p 3
    refine w288_59 xs (d + 2) _ _ m _ ?_
    rw [h5, e3]
    by_cases big : n < p + 3
    · -- digits can't be there
      have z0 : n - (p + 3) = 0 := by omega
      have tb : plT f n p (rn f (isDg 10) (n - (p + 3)) (p + 3)) (dv f 10 (n - (p + 3)) (p + 3) 0) = (5, 5, 0) := by
        unfold plT
        rw [z0]
        by_cases y : wyN (grN f n (p + 1)) = 3 ∨ ¬ (p + 2 < n ∧ (gN (f (p + 2)) = 88 ∨ gN (f (p + 2)) = 87))
        · rw [if_pos y]
        · rw [if_neg y, if_pos (Or.inl (show rn f (isDg 10) 0 (p + 3) = p + 3 from rfl))]
      rw [tb]
      have b173 : yP (xg xs) (d + 2 + 1) 288 172 [(0, .ref 58), (2, .int (gr_ (rc f n (p + 2)))), (3, .int way), (4, .int (nI (p + 3))), (5, .long (0 : Int64))] [] m (rR m p (5, 5, 0)) := by
        refine w288_172 xs (d + 2) _ _ _ _ m _ (w288_173 xs (d + 2) _ _ _ _ _ m _ ⟨fun z => absurd rfl z, fun _ => ?_⟩)
        rw [h5]
        exact y_cv (c275 xs d m 5 p hf0) (by omega) (rR.bad rfl rfl)
      have b124 : yP (xg xs) (d + 2 + 1) 288 124 [(0, .ref 58), (2, .int (gr_ (rc f n (p + 2)))), (3, .int way), (4, .int (nI (p + 3))), (5, .long (0 : Int64))] [] m (rR m p (5, 5, 0)) := by
        refine w288_124 xs (d + 2) _ _ _ _ m _ ⟨fun _ => b173, fun z => absurd (by rw [h5, e3]; exact Int32.le_refl _) z⟩
      refine w288_71 xs (d + 2) _ _ _ _ m _ ?_
      refine y_ci (c274x xs d m h (p + 3) (by omega)) (by omega) ?_
      refine y_ci (c278 xs d m _) (by omega) ?_
      exact ⟨fun _ => ⟨fun _ => b173, fun _ => ⟨fun _ => b124, fun _ => ⟨fun _ => b173, fun _ => b124⟩⟩⟩, fun z => absurd ((rc_D (fun z => (hf _ z).1)).mp (y_ift z)).1 (by omega)⟩
    · refine c288L xs d m h _ _ _ (rn f (isDg 10) (n - (p + 3)) (p + 3)) (rvd f 10 (n - (p + 3)) (p + 3) 0) ?_ (n - (p + 3)) (p + 3) 0 (by omega) rfl rfl ⟨0, Rr.z⟩
      generalize rn f (isDg 10) (n - (p + 3)) (p + 3) = E at *
      generalize dv f 10 (n - (p + 3)) (p + 3) 0 = V at *
      generalize rvd f 10 (n - (p + 3)) (p + 3) 0 = w at *
      have nd : ¬ (E < n ∧ isDN (f E)) := fun z => by
        have e := hend (by omega)
        have e2 := (dN_D _ (hf E z.1).1).mp z.2
        simp at e
        omega
      have b173 : plT f n p E V = (5, 5, 0) → yP (xg xs) (d + 2 + 1) 288 172 [(0, .ref 58), (2, .int (gr_ (rc f n (p + 2)))), (3, .int way), (4, .int (nI E)), (5, .long (lN w))] [] m (rR m p (plT f n p E V)) := by
        intro tb
        refine w288_172 xs (d + 2) _ _ _ _ m _ (w288_173 xs (d + 2) _ _ _ _ _ m _ ⟨fun z => absurd rfl z, fun _ => ?_⟩)
        rw [h5]
        exact y_cv (c275 xs d m 5 p hf0) (by omega) (rR.bad tb rfl)
      refine w288_71 xs (d + 2) _ _ _ _ m _ ?_
      refine y_ci (c274x xs d m h E (by omega)) (by omega) ?_
      refine y_ci (c278 xs d m _) (by omega) ?_
      refine ⟨fun _ => ⟨fun z => b173 ?_, fun z => ?_⟩, fun z => absurd ((rc_D (fun z => (hf _ z).1)).mp (y_ift z)) nd⟩
      · unfold plT
        rw [if_pos (Or.inl (Classical.byContradiction (fun y => by
          rw [if_neg y] at hway
          rw [hway] at z
          exact absurd (show nI (wyN (grN f n (p + 1))) < 0 by rw [z]; decide) (nI_pos (by omega)))))]
      · have w3 : ¬ wyN (grN f n (p + 1)) = 3 := fun y => z (by rw [hway, if_pos y])
        rw [if_neg w3] at hway
        have b124 : (p + 2 < n ∧ (gN (f (p + 2)) = 88 ∨ gN (f (p + 2)) = 87)) → yP (xg xs) (d + 2 + 1) 288 124 [(0, .ref 58), (2, .int (gr_ (rc f n (p + 2)))), (3, .int way), (4, .int (nI E)), (5, .long (lN w))] [] m (rR m p (plT f n p E V)) := by
          intro g
          have t0 : plT f n p E V = if E = p + 3 ∨ (if gN (f (p + 2)) = 88 then 255 else 63) < V ∨ (E < n ∧ isPN (f E)) then (5, 5, 0) else (3, 256 * (if gN (f (p + 2)) = 88 then wyN (grN f n (p + 1)) else wyN (grN f n (p + 1)) + 3) + V, E) := by
            unfold plT
            rw [if_neg (fun q => q.elim w3 (fun y => y g))]
          refine w288_124 xs (d + 2) _ _ _ _ m _ ?_
          rw [h5, e3, nI_leI (by omega) (by omega)]
          refine ⟨fun y => b173 (by rw [t0, if_pos (Or.inl (by omega))]), fun y => ?_⟩
          refine y_ci (c274x xs d m h E (by omega)) (by omega) ?_
          refine y_ci (c283 xs d m _) (by omega) ?_
          have ip := rc_P (f := f) (n := n) (i := E) (fun z => (hf _ z).1)
          refine ⟨fun x => b173 (by rw [t0, if_pos (Or.inr (Or.inr (ip.mp (y_ift x))))]), fun x => ?_⟩
          have np : ¬ (E < n ∧ isPN (f E)) := fun q => y_iff x (ip.mpr q)
          have lim : ∀ L : Nat, L ≤ 255 → (if gN (f (p + 2)) = 88 then 255 else 63) = L → yP (xg xs) (d + 2 + 1) 288 164 [(0, .ref 58), (2, .int (gr_ (rc f n (p + 2)))), (3, .int way), (4, .int (nI E)), (5, .long (lN w))] [.long (lN L), .long (lN w)] m (rR m p (plT f n p E V)) := by
            intro L hL hL2
            refine w288_164 xs (d + 2) _ _ _ _ _ _ m _ ?_
            have hw := hR.1
            have lc : (0 < lg_cmp (lN w) (lN L)) ↔ L < V := by
              rw [lg_cmp_gt, pk_lLT (by omega) (by omega)]
              obtain ⟨q1, q2⟩ := hR
              omega
            rw [lc]
            refine ⟨fun q => b173 (by rw [t0, if_pos (Or.inr (Or.inl (by rw [hL2]; exact q)))]), fun q => ?_⟩
            have t1 : plT f n p E V = (3, 256 * (if gN (f (p + 2)) = 88 then wyN (grN f n (p + 1)) else wyN (grN f n (p + 1)) + 3) + V, E) := by
              rw [t0, if_neg (fun u => u.elim (fun u => by omega) (fun u => u.elim (fun u => q (by rw [← hL2]; exact u)) np))]
            have wV : w = V := by
              obtain ⟨q1, q2⟩ := hR
              omega
            have fin : ∀ a : Nat, (if gN (f (p + 2)) = 88 then wyN (grN f n (p + 1)) else wyN (grN f n (p + 1)) + 3) = a → yP (xg xs) (d + 2 + 1) 288 208 [(4, .int (nI E)), (5, .long (lN w))] [.int (nI a), .int (256 : Int32), .int (4 : Int32), .ref 58] m (rR m p (plT f n p E V)) := by
              intro a ha
              refine w288_208 xs (d + 2) _ _ _ _ _ m _ ?_
              refine y_cv (c277 xs d m _ _ _) (by omega) ?_
              rw [ha] at t1
              refine rR.ok t1 (by decide) ?_
              rw [lN_i, wV, show (256 : Int32) * nI a + nI V = nI (256 * a + V) from by rw [show (256 : Int32) * nI a = nI (256 * a) from pk_mul 256 a, nI_add]]
              rfl
            refine w288_173 xs (d + 2) _ _ _ _ _ m _ ⟨fun _ => ⟨fun u => ?_, fun u => ?_⟩, fun u => absurd u (by decide)⟩
            · rw [hway, show (3 : Int32) + nI (wyN (grN f n (p + 1))) = nI (wyN (grN f n (p + 1)) + 3) from by rw [show (3 : Int32) = nI 3 from rfl, nI_add, Nat.add_comm]]
              exact fin _ (if_neg (fun v => u (g88.mpr ⟨g.1, v⟩)))
            · rw [hway]
              exact fin _ (if_pos (g88.mp u).2)
          exact ⟨fun u => lim 63 (by decide) (if_neg (fun v => u (g88.mpr ⟨g.1, v⟩))), fun u => lim 255 (by decide) (if_pos (g88.mp u).2)⟩
        have nb : ¬ (p + 2 < n ∧ (gN (f (p + 2)) = 88 ∨ gN (f (p + 2)) = 87)) → plT f n p E V = (5, 5, 0) := fun q => by unfold plT; rw [if_pos (Or.inr q)]
        exact ⟨fun y => b124 ⟨(g88.mp y).1, Or.inl (g88.mp y).2⟩, fun y => ⟨fun x => b173 (nb (fun q => q.2.elim (fun u => y (g88.mpr ⟨q.1, u⟩)) (fun u => x (g87.mpr ⟨q.1, u⟩)))), fun x => b124 ⟨(g87.mp x).1, Or.inr (g87.mp x).2⟩⟩⟩
  refine w288_0 xs (d + 2) m _ ?_
  rw [h5, nI_1]
  refine y_ci (c274x xs d m h (p + 1) (by omega)) (by omega) ?_
  refine y_ci (c279 xs d m _) (by omega) ?_
  rw [h5, show nI p + (2 : Int32) = nI (p + 2) from nI_add p 2]
  refine y_ci (c274x xs d m h (p + 2) (by omega)) (by omega) ?_
  refine y_ci (c279 xs d m _) (by omega) ?_
  refine ⟨fun a => ⟨fun b => ⟨fun c => main _ ?_, fun c => main _ ?_⟩, fun b => main _ ?_⟩, fun a => main _ ?_⟩
  · have e : wyN (grN f n (p + 1)) = 3 := by
      unfold wyN
      rw [if_neg (fun z => a (i73.mpr z)), if_neg (fun z => b (i81.mpr z)), if_neg (fun z => c (i77.mpr z))]
    rw [if_pos e]
  · rw [i77.mp c]; rfl
  · rw [i81.mp b]; rfl
  · rw [i73.mp a]; rfl
/-- blanks, one step -/
theorem blk_step {f : Nat → Nat} {n i : Nat} (hn : n ≤ 8192) : blk f n 8192 i = if i < n ∧ isB (f i) then blk f n 8192 (i + 1) else if i + 1 < n ∧ f i = 40 ∧ f (i + 1) = 42 then (match rmk f (n - 1 - (i + 2)) (i + 2) with | some j => blk f n 8192 j | none => (i, true)) else (i, false) := by
  rw [blk_fuel f n 8192 8193 i (by omega) (by omega)]
  rfl
theorem rmk_lt (f : Nat → Nat) : ∀ q i j, rmk f q i = some j → ∃ k, j = k + 2 ∧ i ≤ k ∧ k < i + q
  | 0, i, j, h => by simp [rmk] at h
  | q + 1, i, j, h => by
    unfold rmk at h
    split at h
    · simp only [Option.some.injEq] at h
      exact ⟨i, h.symm, Nat.le_refl _, by omega⟩
    · obtain ⟨k, k1, k2, k3⟩ := rmk_lt f q (i + 1) j h
      exact ⟨k, k1, by omega, by omega⟩
/-- what skip leaves: m has at = i -/
def skQ (m : yM) (x : Nat × Bool) (r : Option Value) (m' : yM) : Prop := r = some (.int (if x.2 = true then 0 else 1)) ∧ m' = y_si m 58 5 (nI x.1)
theorem c273R (xs : List Int32) (d : Nat) (m : yM) {f : Nat → Nat} {n : Nat} (h : TY m f n) (Q : Option Value → yM → Prop) : ∀ q k : Nat, q = n - 1 - k → k ≤ n + 2 → (∀ j, rmk f q k = some j → yP (xg xs) (d + 2) 273 171 [(0, .ref 58), (1, .int 1)] [] (y_si m 58 5 (nI j)) Q) → (rmk f q k = none → Q (some (.int 0)) m) → yP (xg xs) (d + 2) 273 112 [(0, .ref 58), (3, .int (nI k))] [] m Q := by
  have h8 := h.2.1
  have h2 := h.1
  have hf := h.2.2
  intro q
  induction q with
  | zero =>
    intro k hq hk _ k2
    refine w273_112 xs (d + 1) _ m _ ⟨fun _ => ?_, fun z => absurd (by rw [h2, nI_1]; exact nI_le (by omega) (by omega)) z⟩
    refine w273_150 xs (d + 1) _ m _ ⟨fun z => absurd z (by rw [h2, nI_1]; exact nI_nlt (by omega) (by omega)), fun _ => k2 rfl⟩
  | succ q ih =>
    intro k hq hk k1 k2
    have hk1 : k + 1 < n := by omega
    have hs : rmk f (q + 1) k = if f k = 42 ∧ f (k + 1) = 41 then some (k + 2) else rmk f q (k + 1) := rfl
    have i42 : rc f n k = 42 ↔ k < n ∧ f k = 42 := rc_eq (k := 42) (by decide) (by decide) (fun z => (hf _ z).1)
    have i41 : rc f n (k + 1) = 41 ↔ k + 1 < n ∧ f (k + 1) = 41 := rc_eq (k := 41) (by decide) (by decide) (fun z => (hf _ z).1)
    have go : ¬ (f k = 42 ∧ f (k + 1) = 41) → yP (xg xs) (d + 1 + 1) 273 144 [(0, .ref 58), (3, .int (nI k))] [] m Q := by
      intro z
      rw [hs, if_neg z] at k1 k2
      refine w273_144 xs (d + 1) _ m _ ?_
      rw [nI_1]
      exact ih (k + 1) (by omega) (by omega) k1 k2
    refine w273_112 xs (d + 1) _ m _ ⟨fun z => absurd z (by rw [h2, nI_1]; exact nI_ge (by omega) (by omega)), fun _ => ?_⟩
    refine y_ci (c274x xs d m h k (by omega)) (by omega) ?_
    rw [i42]
    refine ⟨fun z => go (fun y => z ⟨by omega, y.1⟩), fun z => ?_⟩
    rw [nI_1]
    refine y_ci (c274x xs d m h (k + 1) (by omega)) (by omega) ?_
    rw [i41]
    refine ⟨fun y => ?_, fun y => go (fun x => y ⟨hk1, x.2⟩)⟩
    refine w273_150 xs (d + 1) _ m _ ⟨fun _ => ?_, fun x => absurd (by rw [h2, nI_1]; exact nI_lt (by omega) (by omega)) x⟩
    rw [show nI k + (2 : Int32) = nI (k + 2) from nI_add k 2]
    exact k1 (k + 2) (by rw [hs, if_pos ⟨z.2, y.2⟩])
theorem c273L (xs : List Int32) (d : Nat) (m0 : yM) {f : Nat → Nat} {n : Nat} (h0 : TY m0 f n) : ∀ (q i : Nat), n - i ≤ q → i ≤ n → yP (xg xs) (d + 2) 273 2 [(0, .ref 58), (1, .int 1)] [] (y_si m0 58 5 (nI i)) (skQ m0 (blk f n 8192 i)) := by
  have h8 := h0.2.1
  intro q
  induction q using Nat.strongRecOn with
  | ind q ih =>
    intro i hq hi
    have h : TY (y_si m0 58 5 (nI i)) f n := h0.si (by decide) (Or.inr (by decide))
    have h2 := h.1
    have hf := h.2.2
    have e5 : (y_si m0 58 5 (nI i)).1 58 5 = nI i := y_si_same _ _ _ _
    have st := blk_step (f := f) (n := n) (i := i) h8
    have done : blk f n 8192 i = (i, false) → yP (xg xs) (d + 1 + 1) 273 171 [(0, .ref 58), (1, .int 0)] [] (y_si m0 58 5 (nI i)) (skQ m0 (blk f n 8192 i)) := by
      intro z
      refine w273_171 xs (d + 1) _ _ _ (w273_2 xs (d + 1) _ _ _ ⟨fun _ => ?_, fun y => absurd rfl y⟩)
      rw [z]
      exact ⟨rfl, rfl⟩
    have no : ¬ (i < n ∧ isB (f i)) → yP (xg xs) (d + 1 + 1) 273 54 [(0, .ref 58), (2, .int (rc f n i))] [] (y_si m0 58 5 (nI i)) (skQ m0 (blk f n 8192 i)) := by
      intro z
      rw [if_neg z] at st
      refine w273_54 xs (d + 1) _ _ _ (w273_55 xs (d + 1) _ _ _ _ ⟨fun _ => ?_, fun y => absurd rfl y⟩)
      rw [h2, e5, nI_leI (by omega) (by omega)]
      refine ⟨fun y => done (by rw [st, if_neg (by omega)]), fun y => ?_⟩
      have i40 : rc f n i = 40 ↔ i < n ∧ f i = 40 := rc_eq (k := 40) (by decide) (by decide) (fun z => (hf _ z).1)
      rw [i40]
      refine ⟨fun x => done (by rw [st, if_neg (fun u => x ⟨by omega, u.2.1⟩)]), fun x => ?_⟩
      rw [nI_1]
      refine y_ci (c274x xs d _ h (i + 1) (by omega)) (by omega) ?_
      have i42 : rc f n (i + 1) = 42 ↔ i + 1 < n ∧ f (i + 1) = 42 := rc_eq (k := 42) (by decide) (by decide) (fun z => (hf _ z).1)
      rw [i42]
      refine ⟨fun u => done (by rw [st, if_neg (fun v => u ⟨v.1, v.2.2⟩)]), fun u => ?_⟩
      rw [if_pos ⟨u.1, x.2, u.2⟩] at st
      rw [e5, show nI i + (2 : Int32) = nI (i + 2) from nI_add i 2]
      refine c273R xs d _ h _ (n - 1 - (i + 2)) (i + 2) rfl (by omega) (fun j hj => ?_) (fun hj => ?_)
      · have jl := rmk_le f _ _ _ hj
        rw [hj] at st
        rw [y_si_si, st]
        exact w273_171 xs (d + 1) _ _ _ (ih (n - j) (by omega) j (Nat.le_refl _) (by omega))
      · rw [hj] at st
        rw [st]
        exact ⟨rfl, rfl⟩
    refine w273_2 xs (d + 1) _ _ _ ⟨fun z => absurd z (by decide), fun _ => ?_⟩
    rw [e5]
    refine y_ci (c274x xs d _ h i (by omega)) (by omega) ?_
    rw [h2, e5, nI_leI (by omega) (by omega)]
    refine ⟨fun z => no (fun y => by omega), fun z => ?_⟩
    have iq : ∀ k : Nat, k < 256 → 0 < k → (rc f n i = nI k ↔ i < n ∧ f i = k) := fun k k1 k2 => rc_eq k1 k2 (fun z => (hf _ z).1)
    have yes : i < n → isB (f i) → yP (xg xs) (d + 1 + 1) 273 50 [(0, .ref 58), (2, .int (rc f n i))] [] (y_si m0 58 5 (nI i)) (skQ m0 (blk f n 8192 i)) := by
      intro y1 y2
      rw [if_pos ⟨y1, y2⟩] at st
      refine w273_50 xs (d + 1) _ _ _ (w273_55 xs (d + 1) _ _ _ _ ⟨fun u => absurd u (by decide), fun _ => ?_⟩)
      rw [e5, y_si_si, nI_1, st]
      exact w273_171 xs (d + 1) _ _ _ (ih (n - (i + 1)) (by omega) (i + 1) (Nat.le_refl _) (by omega))
    have q9 := iq 9 (by decide) (by decide)
    have q10 := iq 10 (by decide) (by decide)
    have q13 := iq 13 (by decide) (by decide)
    have q32 := iq 32 (by decide) (by decide)
    refine ⟨fun y => yes (q9.mp y).1 (Or.inl (q9.mp y).2), fun y9 => ⟨fun y => yes (q10.mp y).1 (Or.inr (Or.inl (q10.mp y).2)), fun y10 => ⟨fun y => yes (q13.mp y).1 (Or.inr (Or.inr (Or.inl (q13.mp y).2))), fun y13 => ⟨fun y => no (fun u => ?_), fun y => yes (q32.mp y).1 (Or.inr (Or.inr (Or.inr (q32.mp y).2)))⟩⟩⟩⟩
    rcases u with ⟨u1, u2 | u2 | u2 | u2⟩
    · exact y9 (q9.mpr ⟨u1, u2⟩)
    · exact y10 (q10.mpr ⟨u1, u2⟩)
    · exact y13 (q13.mpr ⟨u1, u2⟩)
    · exact y (q32.mpr ⟨u1, u2⟩)
theorem c273 (xs : List Int32) (d : Nat) (m : yM) {f : Nat → Nat} {n : Nat} (h : TY m f n) (i : Nat) (hi : i ≤ n) (h5 : m.1 58 5 = nI i) : yC (xg xs) (d + 2) 273 [.ref 58] m (skQ m (blk f n 8192 i)) := by
  have z := c273L xs d m h (n - i) i (Nat.le_refl _) hi
  rw [← h5, y_si_id] at z
  exact w273_0 xs (d + 1) m _ z
