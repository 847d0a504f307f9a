/-! TOKENS OF THE REFERENCE: the next token -/
/-- a name or a word at p that ends at E -/
def rnR (m : yM) (E : Nat) (Rs : List (List Int32)) (w : List Int32) (r : Option Value) (m' : yM) : Prop := r = none ∧ ((∃ t, t < 41 ∧ KN.getD t [] = w ∧ m' = tkn m 1 (nI t) (nI E)) ∨ (w ∉ KN.take 41 ∧ ∃ (j : Nat) (Rs' : List (List Int32)) (m2 : yM), NR m2 Rs' ∧ Kr m m2 ∧ j < Rs'.length ∧ Rs'.getD j [] = w ∧ ((Rs' = Rs ∧ w ∈ Rs) ∨ (w ∉ Rs ∧ Rs' = Rs ++ [w] ∧ j = Rs.length)) ∧ m' = tkn m2 2 (nI j) (nI E)))
def rqQ (m : yM) (p : Nat) (f : Nat → Nat) (Rs : List (List Int32)) (E : Nat) (r : Option Value) (m' : yM) : Prop := if 32 < E - p then rR m p (5, 3, 0) r m' else rnR m E Rs (nmT f p (E - p)) r m'
theorem c285 (xs : List Int32) (d : Nat) (m : yM) {f : Nat → Nat} {n : Nat} (h : TY m f n) (p : Nat) (h5 : m.1 58 5 = nI p) (hf0 : m.1 58 3 = 0) (hp : p < n) (Rs : List (List Int32)) (hR : NR m Rs) (hl : Rs.length ≤ 8192) (ho : offs Rs Rs.length ≤ p) : yC (xg xs) (d + 5) 285 [.ref 58] m (rqQ m p f Rs (rn f isPb (n - p) p)) := by
  have h8 := h.2.1
  have hf := h.2.2
  have he := rn_le f isPb (n - p) p
  have hin := rn_in f isPb (n - p) p
  have hend := rn_end f isPb (n - p) p
  obtain ⟨E, hE⟩ : ∃ E, rn f isPb (n - p) p = E := ⟨_, rfl⟩
  rw [hE] at he hin hend ⊢
  have tail : yP (xg xs) (d + 4 + 1) 285 5 [(0, .ref 58), (1, .int (nI E))] [] m (rqQ m p f Rs E) := by
    have np : ¬ (E < n ∧ isPN (f E)) := fun z => absurd z.2 (of_decide_eq_false (hend (by omega)))
    refine w285_5 xs (d + 4) _ m _ ?_
    refine y_ci (c274x xs d m h E (by omega)) (by omega) ?_
    refine y_ci (c283 xs d m _) (by omega) ?_
    refine ⟨fun _ => ?_, fun z => absurd ((rc_P (fun z => (hf _ z).1)).mp (y_ift z)) np⟩
    rw [h5, pk_sub he.1]
    have lc : (nI (E - p) ≤ (32 : Int32)) ↔ E - p ≤ 32 := nI_leI (b := 32) (by omega) (by decide)
    rw [lc]
    refine ⟨fun g => ?_, fun g => ?_⟩
    · have ok : ∀ r m', rnR m E Rs (nmT f p (E - p)) r m' → rqQ m p f Rs E r m' := fun r m' q => by unfold rqQ; rw [if_neg (by omega)]; exact q
      refine yC.mono (by omega) ?_ (c286 xs d m h p (E - p) h5 (by omega))
      rintro r m1 ⟨rfl, hw⟩
      rcases hw with ⟨t, t1, t2, rfl⟩ | ⟨t1, rfl⟩
      · refine ⟨_, rfl, fun z => absurd (show nI t < 0 by rw [z]; decide) (nI_pos (by omega)), fun _ => ?_⟩
        exact y_cv (c277 xs d m1 _ _ _) (by omega) (ok _ _ ⟨rfl, Or.inl ⟨t, t1, t2, rfl⟩⟩)
      · refine ⟨_, rfl, fun _ => ?_, fun z => absurd rfl z⟩
        refine yC.mono (by omega) ?_ (c287 xs d m1 h p (E - p) h5 (by omega) (fun i i1 i2 => of_decide_eq_true (hin i i1 (by omega))) Rs hR hl (by omega))
        rintro r m2 ⟨j, Rs', rfl, j1, j2, j3, j4, j5⟩
        refine ⟨_, rfl, ?_⟩
        exact y_cv (c277 xs d m2 _ _ _) (by omega) (ok _ _ ⟨rfl, Or.inr ⟨t1, j, Rs', m2, j1, j2, j3, j4, j5, rfl⟩⟩)
    · exact y_cv (c275 xs d m 3 p hf0) (by omega) (by unfold rqQ; rw [if_pos (by omega)]; exact rR.bad rfl rfl)
  have lp : ∀ q i : Nat, i + q = n → rn f isPb q i = E → yP (xg xs) (d + 4 + 1) 285 5 [(0, .ref 58), (1, .int (nI i))] [] m (rqQ m p f Rs E) := by
    intro q
    induction q with
    | zero =>
      intro i hi hr
      have e : i = E := hr
      rw [e]
      exact tail
    | succ q ih =>
      intro i hi hr
      have hs1 : rn f isPb (q + 1) i = if isPb (f i) then rn f isPb q (i + 1) else i := rfl
      by_cases z : isPN (f i)
      · rw [hs1, if_pos (by simpa using z)] at hr
        refine w285_5 xs (d + 4) _ m _ ?_
        refine y_ci (c274x xs d m h i (by omega)) (by omega) ?_
        refine y_ci (c283 xs d m _) (by omega) ?_
        refine ⟨fun y => absurd ((rc_P (fun z => (hf _ z).1)).mpr ⟨by omega, z⟩) (y_iff y), fun _ => ?_⟩
        rw [nI_1]
        exact ih (i + 1) (by omega) hr
      · rw [hs1, if_neg (by simpa using z)] at hr
        rw [hr]
        exact tail
  refine w285_0 xs (d + 4) m _ ?_
  rw [h5]
  exact lp (n - p) p (by omega) hE
/-- the memory when the token's first byte is known -/
def nxM (m : yM) (b : Nat) : yM := y_si (y_si (y_si m 58 9 (m.1 58 8)) 58 5 (nI b)) 58 8 (nI b)
/-- what next leaves: x the token behind pos and its place -/
def nxQ (m : yM) (f : Nat → Nat) (n pos : Nat) (Rs : List (List Int32)) (r : Option Value) (m' : yM) : Prop := if (blk f n 8192 pos).2 = true then r = none ∧ m' = bdR (y_si (y_si m 58 9 (m.1 58 8)) 58 5 (nI (tokN f n pos).2)) 2 (tokN f n pos).2 else if (tokN f n pos).1.1 = 1 then rnR (nxM m (tokN f n pos).2) (tokN f n pos).1.2.2 Rs (nmT f (tokN f n pos).2 ((tokN f n pos).1.2.2 - (tokN f n pos).2)) r m' else rR (nxM m (tokN f n pos).2) (tokN f n pos).2 (tokN f n pos).1 r m'
theorem Kr.n {m m' : yM} (h : Kr m m') (a i : Nat) (h1 : a ≠ 60) (h2 : a ≠ 61) (h3 : ¬ (a = 58 ∧ i = 12)) : m'.1 a i = m.1 a i := h.1 a i h1 h2 h3
theorem NR.si {m : yM} {Rs : List (List Int32)} (h : NR m Rs) {k i : Nat} {v : Int32} (hk : k ≠ 60 ∧ k ≠ 61) (hi : k ≠ 58 ∨ i ≠ 12) : NR (y_si m k i v) Rs := by
  obtain ⟨r1, r2, r3, r4⟩ := h
  refine ⟨?_, fun j hj => ?_, fun j hj => ?_, r4⟩
  · rw [y_si_at, if_neg (by omega)]; exact r1
  · rw [y_si_at, if_neg (by omega)]; exact r2 j hj
  · refine Eq.trans (nrAt_eq.mpr (fun e _ => ?_)) (r3 j hj)
    rw [y_si_at, if_neg (by omega)]
theorem c272 (xs : List Int32) (d : Nat) (m : yM) {f : Nat → Nat} {n : Nat} (h : TY m f n) (pos : Nat) (h5 : m.1 58 5 = nI pos) (hf0 : m.1 58 3 = 0) (hp : pos ≤ n) (Rs : List (List Int32)) (hR : NR m Rs) (hl : Rs.length ≤ 8192) (ho : offs Rs Rs.length ≤ pos) : yC (xg xs) (d + 6) 272 [.ref 58] m (nxQ m f n pos Rs) := by
  have h8 := h.2.1
  have hb := blk_le f n 8192 pos hp
  refine w272_0 xs (d + 5) m _ ⟨fun _ => ?_, fun z => absurd (by rw [hf0]; decide) z⟩
  have h1 : TY (y_si m 58 9 (m.1 58 8)) f n := h.si (by decide) (Or.inr (by decide))
  refine yC.mono (by omega) ?_ (c273 xs d _ h1 pos hp (by rw [y_si_at, if_neg (by decide)]; exact h5))
  rintro r m1 ⟨rfl, rfl⟩
  refine ⟨_, rfl, ?_⟩
  by_cases hbad : (blk f n 8192 pos).2 = true
  · refine ⟨fun z => absurd (by rw [if_pos hbad]) z, fun _ => ?_⟩
    rw [y_si_same]
    refine y_cv (c275 xs d _ 2 _ (by rw [y_si_at, if_neg (by decide), y_si_at, if_neg (by decide)]; exact hf0)) (by omega) ?_
    unfold nxQ
    rw [if_pos hbad]
    exact ⟨rfl, rfl⟩
  · refine ⟨fun _ => ?_, fun z => absurd z (by rw [if_neg hbad]; decide)⟩
    have hx : tokN f n pos = (tkAt f n (blk f n 8192 pos).1, (blk f n 8192 pos).1) := by unfold tokN; rw [if_neg hbad]
    have Q0 : ∀ r m', nxQ m f n pos Rs r m' = (if (tkAt f n (blk f n 8192 pos).1).1 = 1 then rnR (nxM m (blk f n 8192 pos).1) (tkAt f n (blk f n 8192 pos).1).2.2 Rs (nmT f (blk f n 8192 pos).1 ((tkAt f n (blk f n 8192 pos).1).2.2 - (blk f n 8192 pos).1)) r m' else rR (nxM m (blk f n 8192 pos).1) (blk f n 8192 pos).1 (tkAt f n (blk f n 8192 pos).1) r m') := by
      intro r m'
      unfold nxQ
      rw [if_neg hbad, hx]
    rw [y_si_same]
    show yC (xg xs) (d + 5) 274 [.ref 58, .int (nI (blk f n 8192 pos).1)] (nxM m (blk f n 8192 pos).1) _
    generalize (blk f n 8192 pos).1 = b at *
    have ht : TY (nxM m b) f n := ((h.si (by decide) (Or.inr (by decide))).si (by decide) (Or.inr (by decide))).si (by decide) (Or.inr (by decide))
    have hf := ht.2.2
    have e5 : (nxM m b).1 58 5 = nI b := by simp [nxM, y_si_at]
    have e3 : (nxM m b).1 58 3 = 0 := by simp [nxM, y_si_at, hf0]
    have hR2 : NR (nxM m b) Rs := ((hR.si (by decide) (Or.inr (by decide))).si (by decide) (Or.inr (by decide))).si (by decide) (Or.inr (by decide))
    refine y_ci (c274x xs d _ ht b (by omega)) (by omega) ?_
    rw [e5, ht.1, nI_ltI (by omega) (by omega)]
    refine ⟨fun z => ?_, fun z => ?_⟩
    · have g := (hf b z).1
      have t0 : tkAt f n b = if gN (f b) = 84 ∧ b + 1 < n ∧ f (b + 1) = 35 then timT f n b (rn f (isDg 10) (n - (b + 2)) (b + 2)) (dv f 10 (n - (b + 2)) (b + 2) 0) else if dN (f b) < 10 then numT f n b (rn f (isDg 10) (n - b) b) (dv f 10 (n - b) b 0) else if isPN (f b) then (if 32 < rn f isPb (n - b) b - b then (5, 3, 0) else (1, 0, rn f isPb (n - b) b)) else if f b = 37 then plT f n b (rn f (isDg 10) (n - (b + 3)) (b + 3)) (dv f 10 (n - (b + 3)) (b + 3) 0) else sgT f n b := by
        unfold tkAt
        rw [if_neg (fun y => y z)]
      have eb : rc f n b = nI (f b) := if_pos z
      have lt : gN (f b) = 84 → ¬ isDN (f b) := by
        intro y1 y2
        unfold gN at y1
        split at y1 <;> omega
      refine y_ci (c278 xs d _ _) (by omega) ?_
      have iD := rc_D (f := f) (n := n) (i := b) (fun z => (hf _ z).1)
      have num : isDN (f b) → yP (xg xs) (d + 5 + 1) 272 111 [(0, .ref 58)] [] (nxM m b) (nxQ m f n pos Rs) := by
        intro y
        have e : tkAt f n b = numT f n b (rn f (isDg 10) (n - b) b) (dv f 10 (n - b) b 0) := by
          rw [t0, if_neg (fun x => lt x.1 y), if_pos ((dN_D _ g).mp y)]
        refine w272_111 xs (d + 5) _ _ ?_
        refine yC.mono (by omega) ?_ (c280n xs d _ ht b e5 e3 z y)
        rintro r m2 ⟨rfl, hm⟩
        refine ⟨rfl, ?_⟩
        have K := numT_K f n b (rn f (isDg 10) (n - b) b) (dv f 10 (n - b) b 0)
        rw [Q0, e, if_neg (by omega)]
        exact ⟨rfl, hm⟩
      refine ⟨fun y => num (iD.mp (y_ift y)).2, fun y => ?_⟩
      have nD : ¬ isDN (f b) := fun x => y_iff y (iD.mpr ⟨z, x⟩)
      refine y_ci (c279 xs d _ _) (by omega) ?_
      have i84 := rc_gr (f := f) (n := n) (i := b) (k := 84) (by decide) (by decide) (fun z => (hf _ z).1)
      have rest : ¬ (gN (f b) = 84 ∧ b + 1 < n ∧ f (b + 1) = 35) → yP (xg xs) (d + 5 + 1) 272 118 [(0, .ref 58), (1, .int (rc f n b))] [] (nxM m b) (nxQ m f n pos Rs) := by
        intro nt
        rw [if_neg nt, if_neg (fun x => nD ((dN_D _ g).mpr x))] at t0
        refine w272_118 xs (d + 5) _ _ _ ?_
        refine y_ci (c284 xs d _ _) (by omega) ?_
        have iL : isL (rc f n b) ↔ isPN (f b) := by
          rw [eb, isL_N _ g]
          exact ⟨fun x => Or.inl x, fun x => x.elim id (fun x => absurd x nD)⟩
        refine ⟨fun x => ?_, fun x => ?_⟩
        · have np : ¬ isPN (f b) := fun u => y_iff x (iL.mpr u)
          rw [if_neg np] at t0
          have i37 : rc f n b = 37 ↔ b < n ∧ f b = 37 := rc_eq (k := 37) (by decide) (by decide) (fun z => (hf _ z).1)
          rw [i37]
          refine ⟨fun u => ?_, fun u => ?_⟩
          · rw [if_neg (fun v => u ⟨z, v⟩)] at t0
            rw [eb]
            refine yC.mono (by omega) ?_ (c289 xs d _ ht b e5 e3 z)
            rintro r m2 ⟨rfl, hm⟩
            refine ⟨rfl, ?_⟩
            have K := sgT_K f n b
            rw [Q0, t0, if_neg (by omega)]
            exact ⟨rfl, hm⟩
          · rw [if_pos u.2] at t0
            refine yC.mono (by omega) ?_ (c288 xs d _ ht b e5 e3 z)
            rintro r m2 ⟨rfl, hm⟩
            refine ⟨rfl, ?_⟩
            have K := plT_K f n b (rn f (isDg 10) (n - (b + 3)) (b + 3)) (dv f 10 (n - (b + 3)) (b + 3) 0)
            rw [Q0, t0, if_neg (by omega)]
            exact ⟨rfl, hm⟩
        · have ip : isPN (f b) := iL.mp (y_ift x)
          rw [if_pos ip] at t0
          refine yC.mono (by omega) ?_ (c285 xs d _ ht b e5 e3 z Rs hR2 hl (by omega))
          intro r m2 hq
          unfold rqQ at hq
          have hr : r = none := by
            split at hq
            · exact hq.1
            · exact hq.1
          subst hr
          refine ⟨rfl, ?_⟩
          rw [Q0]
          by_cases u : 32 < rn f isPb (n - b) b - b
          · rw [if_pos u] at hq t0
            rw [t0, if_neg (by decide)]
            exact hq
          · rw [if_neg u] at hq t0
            rw [t0, if_pos rfl]
            exact hq
      refine ⟨fun x => rest (fun u => x (i84.mpr ⟨z, u.1⟩)), fun x => ?_⟩
      rw [e5, nI_1]
      refine y_ci (c274x xs d _ ht (b + 1) (by omega)) (by omega) ?_
      have i35 : rc f n (b + 1) = 35 ↔ b + 1 < n ∧ f (b + 1) = 35 := rc_eq (k := 35) (by decide) (by decide) (fun z => (hf _ z).1)
      rw [i35]
      refine ⟨fun u => rest (fun v => u v.2), fun u => ?_⟩
      rw [if_pos ⟨(i84.mp x).2, u⟩] at t0
      refine w272_111 xs (d + 5) _ _ ?_
      refine yC.mono (by omega) ?_ (c280t xs d _ ht b e5 e3 (by omega) nD)
      rintro r m2 ⟨rfl, hm⟩
      refine ⟨rfl, ?_⟩
      have K := timT_K f n b (rn f (isDg 10) (n - (b + 2)) (b + 2)) (dv f 10 (n - (b + 2)) (b + 2) 0)
      rw [Q0, t0, if_neg (by omega)]
      exact ⟨rfl, hm⟩
    · have bn : b = n := by omega
      have t0 : tkAt f n b = (0, 0, b) := by unfold tkAt; rw [if_pos z]
      refine y_cv (c277 xs d _ _ _ _) (by omega) ?_
      rw [Q0, t0, if_neg (fun u => absurd u (show ¬ (0 : Nat) = 1 by decide)), bn]
      exact ⟨rfl, rfl⟩
