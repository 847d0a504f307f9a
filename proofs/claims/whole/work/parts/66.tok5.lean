/-! TOKENS OF THE CLASS: names -/
abbrev isPb (c : Nat) : Bool := decide (isPN c)
/-- the great letters of s bytes from p on -/
def nmT (f : Nat → Nat) (p s : Nat) : List Int32 := (List.range s).map (fun i => nI (gN (f (p + i))))
theorem nmT_len (f : Nat → Nat) (p s : Nat) : (nmT f p s).length = s := by simp [nmT]
theorem nmT_s (f : Nat → Nat) (p s : Nat) : nmT f p (s + 1) = nmT f p s ++ [nI (gN (f (p + s)))] := by simp [nmT, List.range_succ]
theorem pk_vbN {c : Nat} (h : c < 128) : vp_nar .byte (nI c) = nI c := by
  have e := by8_lo c h
  rw [← e]
  exact pk_vb _
theorem isPN_lo : ∀ c, c < 256 → isPN c → c < 128 ∧ gN c < 128 := by decide +kernel
theorem Kn.tx {m m' : yM} {f : Nat → Nat} {n : Nat} (h : Kn m m') (ht : TX m f n) : TX m' f n := by
  obtain ⟨h1, h2, h3, h4⟩ := ht
  have e8 := h.1 8 (by decide)
  have e1 := h.1 1 (by decide)
  exact ⟨by rw [e8]; exact h1, by rw [e8]; exact h2, h3, fun i hi => ⟨(h4 i hi).1, by rw [e1]; exact (h4 i hi).2⟩⟩
/-- a name's number: it was known, or is new -/
def NmR (m : yM) (Ns : List (List Int32)) (w : List Int32) (r : Option Value) (m' : yM) : Prop := ∃ (j : Nat) (Ns' : List (List Int32)), r = some (.int (nI j)) ∧ NI m' Ns' ∧ Kn m m' ∧ j < Ns'.length ∧ Ns'.getD j [] = w ∧ ((Ns' = Ns ∧ w ∈ Ns) ∨ (w ∉ Ns ∧ Ns' = Ns ++ [w] ∧ j = Ns.length))
theorem c50L (xs : List Int32) (d : Nat) (m : yM) {f : Nat → Nat} {n : Nat} (h : TX m f n) (Ns : List (List Int32)) (hl : Ns.length < 4172) (p s : Nat) (hs : offs Ns Ns.length + s ≤ 8704) (hp : p + s ≤ n) (hc : ∀ i, p ≤ i → i < p + s → isPN (f i)) :
    ∀ (q i : Nat) (m2 : yM), i + q = s → NI m2 Ns → nmAt m2 (offs Ns Ns.length) i = nmT f p i → Kn m m2 → yP (xg xs) (d + 3) 50 29 [(0, .ref 12), (1, .ref 1), (2, .int (nI p)), (3, .int (nI s)), (4, .int (nI (offs Ns Ns.length))), (5, .int (nI i))] [] m2 (NmR m Ns (nmT f p s)) := by
  have h8 := h.2.2.1
  intro q
  induction q with
  | zero =>
    intro i m2 hi hN hw hK
    have hi2 : i = s := by omega
    subst hi2
    refine w50_29 xs (d + 2) _ _ _ _ m2 _ ⟨fun _ => ?_, fun z => absurd (Int32.le_refl _) z⟩
    refine yC.mono (by omega) ?_ (c33 xs d m2 Ns (nmT f p i) i hN hl hs hw)
    rintro r m3 (⟨j, j1, j2, rfl, rfl⟩ | ⟨j1, rfl, rfl⟩)
    · refine ⟨_, rfl, j, Ns, rfl, hN, hK, j1, j2, Or.inl ⟨rfl, ?_⟩⟩
      rw [← j2]
      simp [j1]
    · refine ⟨_, rfl, Ns.length, Ns ++ [nmT f p i], rfl, newNm_NI hN hl hs hw j1, hK.tr (newNm_Kn _ _ _ _), by simp, by simp, Or.inr ⟨j1, rfl, rfl⟩⟩
  | succ q ih =>
    intro i m2 hi hN hw hK
    have hi2 : i < s := by omega
    have ht := hK.tx h
    have hf := ht.2.2.2
    refine w50_29 xs (d + 2) _ _ _ _ m2 _ ⟨fun z => absurd z (nI_ge hi2 (by omega)), fun _ => ?_⟩
    have hp1 := hc (p + i) (by omega) (by omega)
    have g := hf (p + i) (by omega)
    have lo := isPN_lo _ g.1 hp1
    rw [nI_add, nI_add, nI_1, nI_clamp (by omega), nI_clamp (by omega), g.2, by8_lo _ lo.1]
    refine ⟨x_in_nI (by omega) (by decide), ?_⟩
    refine y_ci (c41 xs d m2 _) (by omega) ?_
    rw [gr_N _ g.1, by8_lo _ lo.2, pk_vbN lo.2]
    refine ⟨x_in_nI (by omega) (by decide), ?_⟩
    refine ih (i + 1) _ (by omega) (hN.let _ _ (by omega)) ?_ (hK.tr (Kn.si (by omega)))
    rw [nmAt_s, nmT_s]
    congr 1
    · refine Eq.trans (nmAt_eq.mpr (fun e he => ?_)) hw
      rw [y_si_at, if_neg (by omega)]
    · rw [y_si_at, if_pos ⟨rfl, rfl⟩]
theorem c50 (xs : List Int32) (d : Nat) (m : yM) {f : Nat → Nat} {n : Nat} (h : TX m f n) (Ns : List (List Int32)) (hN : NI m Ns) (hl : Ns.length < 4172) (p s : Nat) (hs : offs Ns Ns.length + s ≤ 8704) (hp : p + s ≤ n) (hc : ∀ i, p ≤ i → i < p + s → isPN (f i)) : yC (xg xs) (d + 3) 50 [.ref 12, .ref 1, .int (nI p), .int (nI s)] m (NmR m Ns (nmT f p s)) := by
  obtain ⟨hk, h2, h3, h4, -⟩ := id hN
  refine w50_0 xs (d + 2) _ _ m _ ?_
  have e := h3 _ (Nat.le_refl _)
  rw [hk, nI_clamp (by omega), e, nI_add]
  exact ⟨x_in_nI (by omega) (by decide), fun _ => c50L xs d m h Ns hl p s hs hp hc s 0 m (by omega) hN rfl (Kn.rf m), fun z => absurd (nI_le (b := 8704) (by omega) (by decide)) z⟩
/-- a token that is a name or a word -/
def nmR (m : yM) (k p n E : Nat) (Ns : List (List Int32)) (w : List Int32) (r : Option Value) (m' : yM) : Prop := ∃ (j : Nat) (Ns' : List (List Int32)) (m2 : yM), r = some (.int (nI E)) ∧ NI m2 Ns' ∧ Kn m m2 ∧ j < Ns'.length ∧ Ns'.getD j [] = w ∧ ((Ns' = Ns ∧ w ∈ Ns) ∨ (w ∉ Ns ∧ Ns' = Ns ++ [w] ∧ j = Ns.length)) ∧ m' = tkAdd m2 k (if j < 41 then nI j else 64) (nI p) (nI j)
def nmQ (m : yM) (k p n : Nat) (f : Nat → Nat) (Ns : List (List Int32)) (r : Option Value) (m' : yM) : Prop := if 32 < rn f isPb (n - p) p - p then tkT m k p n (5, 3, 0) r m' else nmR m k p n (rn f isPb (n - p) p) Ns (nmT f p (rn f isPb (n - p) p - p)) r m'
theorem c49 (xs : List Int32) (d : Nat) (m : yM) {f : Nat → Nat} {n : Nat} (h : TX m f n) (Ns : List (List Int32)) (hN : NI m Ns) (hl : Ns.length < 4172) (k : Nat) (hk : m.1 8 6 = nI k) (hk2 : k ≤ 8192) (p : Nat) (hp : p ≤ n) (hs : offs Ns Ns.length + 32 ≤ 8704) : yC (xg xs) (d + 4) 49 [.ref 8, .int (nI p)] m (nmQ m k p n f Ns) := by
  have hf := h.2.2.2
  have h8 := h.2.2.1
  have h5 := h.2.1
  have he := rn_le f isPb (n - p) p
  have hin := rn_in f isPb (n - p) p
  have tail : yP (xg xs) (d + 3 + 1) 49 27 [(0, .ref 8), (1, .int (nI p)), (2, .int (nI (rn f isPb (n - p) p)))] [] m (nmQ m k p n f Ns) := by
    unfold nmQ
    generalize rn f isPb (n - p) p = E at *
    refine w49_27 xs (d + 3) _ _ m _ ?_
    rw [pk_sub he.1]
    have lc : (nI (E - p) ≤ (32 : Int32)) ↔ E - p ≤ 32 := nI_leI (b := 32) (by omega) (by decide)
    rw [lc]
    refine ⟨fun g => ⟨h.1, ?_⟩, fun g => ?_⟩
    · refine yC.mono (by omega) ?_ (c50 xs d m h Ns hN hl p (E - p) (by omega) (by omega) (fun i i1 i2 => by simpa using hin i i1 (by omega)))
      rintro r m2 ⟨j, Ns', rfl, j1, j2, j3, j4, j5⟩
      refine ⟨_, rfl, ?_⟩
      have hj := j1.2.1
      have k1 : m2.1 8 6 = nI k := by rw [j2.1 8 (by decide)]; exact hk
      have l41 : ((41 : Int32) ≤ nI j) ↔ 41 ≤ j := nI_leI (a := 41) (by decide) (by omega)
      rw [l41]
      have fin : ∀ v : Int32, v = (if j < 41 then nI j else 64) → yP (xg xs) (d + 3 + 1) 49 71 [(1, .int (nI p)), (2, .int (nI E)), (3, .int (nI j))] [.int v, .ref 8] m2 (fun r m' => if 32 < E - p then tkT m k p n (5, 3, 0) r m' else nmR m k p n E Ns (nmT f p (E - p)) r m') := by
        intro v hv
        refine w49_71 xs (d + 3) _ _ _ _ _ _ ?_
        refine y_cv (c39 xs d m2 _ _ _ k k1 hk2) (by omega) ?_
        rw [if_neg (by omega)]
        exact ⟨j, Ns', m2, rfl, j1, j2, j3, j4, j5, by rw [hv]⟩
      exact ⟨fun z => fin 64 (by rw [if_neg (by omega)]), fun z => fin _ (by rw [if_pos (by omega)])⟩
    · refine y_ci (c38 xs d m _ _ k hk hk2) (by omega) ?_
      rw [if_pos (by omega)]
      refine tkT.bad (v := 3) (m.1 8 7) rfl (by rw [h5]) ?_
      rw [y_si_id]
      rfl
  have lp : ∀ q i : Nat, i + q = n → rn f isPb q i = rn f isPb (n - p) p → yP (xg xs) (d + 3 + 1) 49 2 [(0, .ref 8), (1, .int (nI p)), (2, .int (nI i))] [] m (nmQ m k p n f Ns) := by
    intro q
    induction q with
    | zero =>
      intro i hi hr
      refine w49_2 xs (d + 3) _ _ m _ ⟨fun _ => ?_, fun z => absurd (by rw [h5]; exact nI_le (by omega) (by omega)) z⟩
      rw [← hr] at tail
      exact tail
    | succ q ih =>
      intro i hi hr
      refine w49_2 xs (d + 3) _ _ m _ ⟨fun z => absurd z (by rw [h5]; exact nI_ge (by omega) (by omega)), fun _ => ?_⟩
      refine y_ci (c36x xs d m h i (by omega)) (by omega) ?_
      refine y_ci (c47 xs d m _) (by omega) ?_
      have nb := bc_nB (f := f) (n := n) (e := i) (fun z => (hf _ z).1)
      have hs1 : rn f isPb (q + 1) i = if isPb (f i) then rn f isPb q (i + 1) else i := rfl
      refine ⟨fun z => ?_, fun z => ?_⟩
      · have z1 : ¬ isPN (f i) := fun y => y_iff z (nb.mpr ⟨by omega, y⟩)
        rw [hs1, if_neg (by simpa using z1)] at hr
        rw [← hr] at tail
        exact tail
      · have z1 := (nb.mp (y_ift z)).2
        rw [hs1, if_pos (by simpa using z1)] at hr
        rw [nI_1]
        exact ih (i + 1) (by omega) hr
  refine w49_0 xs (d + 3) _ m _ ?_
  exact lp (n - p) p (by omega) rfl
/-- the token at p: (0, 0, p) the end, (1, 0, end) a name or a word, and as above -/
def tkAt (f : Nat → Nat) (n p : Nat) : Nat × Nat × Nat := if ¬ p < n then (0, 0, p) else if gN (f p) = 84 ∧ p + 1 < n ∧ f (p + 1) = 35 then timT f n p (rn f (isDg 10) (n - (p + 2)) (p + 2)) (dv f 10 (n - (p + 2)) (p + 2) 0) else if dN (f p) < 10 then numT f n p (rn f (isDg 10) (n - p) p) (dv f 10 (n - p) p 0) else if isPN (f p) then (if 32 < rn f isPb (n - p) p - p then (5, 3, 0) else (1, 0, rn f isPb (n - p) p)) else if f p = 37 then plT f n p (rn f (isDg 10) (n - (p + 3)) (p + 3)) (dv f 10 (n - (p + 3)) (p + 3) 0) else sgT f n p
def btQ (m : yM) (k p n : Nat) (f : Nat → Nat) (Ns : List (List Int32)) (t : Nat × Nat × Nat) (r : Option Value) (m' : yM) : Prop := if t.1 = 1 then nmR m k p n t.2.2 Ns (nmT f p (t.2.2 - p)) r m' else if t.1 = 0 then r = some (.int (nI p)) ∧ m' = y_si (tkAdd m k 67 (nI n) 0) 8 8 1 else tkT m k p n t r m'
theorem tkT.ex {m : yM} {k p n : Nat} {t : Nat × Nat × Nat} {r : Option Value} {m' : yM} (h : tkT m k p n t r m') : ∃ u, r = some (Value.int u) := by
  obtain ⟨z, h⟩ := h
  split at h
  · exact ⟨_, h.1⟩
  · exact ⟨_, h.1⟩
theorem btQ.ofT {m : yM} {k p n : Nat} {f : Nat → Nat} {Ns : List (List Int32)} {t : Nat × Nat × Nat} {r : Option Value} {m' : yM} (h : tkT m k p n t r m') (h1 : ¬ t.1 = 1) (h0 : ¬ t.1 = 0) : btQ m k p n f Ns t r m' := by
  unfold btQ
  rw [if_neg h1, if_neg h0]
  exact h
theorem sgT_K (f : Nat → Nat) (n p : Nat) : (sgT f n p).1 = 4 ∨ (sgT f n p).1 = 5 := by
  unfold sgT
  repeat' split
  all_goals simp
theorem plT_K (f : Nat → Nat) (n p E V : Nat) : (plT f n p E V).1 = 3 ∨ (plT f n p E V).1 = 5 := by
  unfold plT
  repeat' split
  all_goals simp
theorem c40 (xs : List Int32) (d : Nat) (m : yM) {f : Nat → Nat} {n p : Nat} (h : TX m f n) (Ns : List (List Int32)) (hN : NI m Ns) (hl : p < n → isPN (f p) → Ns.length < 4172) (k : Nat) (hk : m.1 8 6 = nI k) (hk2 : k ≤ 8192) (hp : p ≤ n) (hs : offs Ns Ns.length + 32 ≤ 8704) : yC (xg xs) (d + 5) 40 [.ref 8, .int (nI p)] m (btQ m k p n f Ns (tkAt f n p)) := by
  have hf := h.2.2.2
  have h8 := h.2.2.1
  have h5 := h.2.1
  refine w40_0 xs (d + 4) _ m _ ?_
  refine y_ci (c36x xs d m h p (by omega)) (by omega) ?_
  refine ⟨fun q => ?_, fun q => ?_⟩
  · have hp2 : p < n := Classical.byContradiction (fun z => q (bc_o z))
    have g := (hf p hp2).1
    have t0 : tkAt f n p = if gN (f p) = 84 ∧ p + 1 < n ∧ f (p + 1) = 35 then timT f n p (rn f (isDg 10) (n - (p + 2)) (p + 2)) (dv f 10 (n - (p + 2)) (p + 2) 0) else if dN (f p) < 10 then numT f n p (rn f (isDg 10) (n - p) p) (dv f 10 (n - p) p 0) else if isPN (f p) then (if 32 < rn f isPb (n - p) p - p then (5, 3, 0) else (1, 0, rn f isPb (n - p) p)) else if f p = 37 then plT f n p (rn f (isDg 10) (n - (p + 3)) (p + 3)) (dv f 10 (n - (p + 3)) (p + 3) 0) else sgT f n p := by
      unfold tkAt
      rw [if_neg (fun z => z hp2)]
    rw [bc_c hp2]
    refine y_ci (c41 xs d m _) (by omega) ?_
    rw [gr_N _ g, show (nI (gN (f p)) = (84 : Int32)) ↔ gN (f p) = 84 from nI_eq (b := 84) (by have := gN_lt _ g; omega) (by decide)]
    have b56 : ¬ (gN (f p) = 84 ∧ p + 1 < n ∧ f (p + 1) = 35) → yP (xg xs) (d + 4 + 1) 40 56 [(0, .ref 8), (1, .int (nI p)), (2, .int (nI (f p)))] [] m (btQ m k p n f Ns (tkAt f n p)) := by
      intro nt
      rw [if_neg nt] at t0
      refine w40_56 xs (d + 4) _ _ m _ ?_
      refine y_ci (c44 xs d m _ _) (by omega) ?_
      rw [show dg_ (nI (f p)) (10 : Int32) = if dN (f p) < 10 then nI (dN (f p)) else -1 from dg_N (b := 10) g (by decide)]
      refine ⟨fun z => ?_, fun z => ?_⟩
      · have nd : ¬ dN (f p) < 10 := fun y => by
          rw [if_pos y] at z
          exact absurd (show nI (dN (f p)) < 0 by rw [z]; decide) (nI_pos (by omega))
        rw [if_neg nd] at t0
        refine y_ci (c47 xs d m _) (by omega) ?_
        refine ⟨fun y => ?_, fun y => ?_⟩
        · have np : ¬ isPN (f p) := fun x => y_iff y ((nB_N _ g).mpr x)
          rw [if_neg np] at t0
          rw [show (nI (f p) = (37 : Int32)) ↔ f p = 37 from nI_eq (b := 37) (by omega) (by decide)]
          refine ⟨fun x => ?_, fun x => ?_⟩
          · rw [if_neg x] at t0
            refine yC.mono (by omega) ?_ (c69 xs d m h k hk hk2 p hp2)
            intro r m2 w
            obtain ⟨u, rfl⟩ := w.ex
            have K := sgT_K f n p
            exact ⟨u, rfl, by rw [t0]; exact btQ.ofT w (by omega) (by omega)⟩
          · rw [if_pos x] at t0
            refine yC.mono (by omega) ?_ (c51 xs d m h k hk hk2 p hp2)
            intro r m2 w
            obtain ⟨u, rfl⟩ := w.ex
            have K := plT_K f n p (rn f (isDg 10) (n - (p + 3)) (p + 3)) (dv f 10 (n - (p + 3)) (p + 3) 0)
            exact ⟨u, rfl, by rw [t0]; exact btQ.ofT w (by omega) (by omega)⟩
        · have ip : isPN (f p) := (nB_N _ g).mp (y_ift y)
          rw [if_pos ip] at t0
          refine yC.mono (by omega) ?_ (c49 xs d m h Ns hN (hl hp2 ip) k hk hk2 p hp hs)
          intro r m2 w
          unfold nmQ at w
          by_cases b : 32 < rn f isPb (n - p) p - p
          · rw [if_pos b] at w t0
            obtain ⟨u, rfl⟩ := w.ex
            exact ⟨u, rfl, by rw [t0]; exact btQ.ofT w (by decide) (by decide)⟩
          · rw [if_neg b] at w t0
            have w2 := w
            obtain ⟨j, Ns', m3, rfl, -⟩ := w2
            refine ⟨_, rfl, ?_⟩
            rw [t0]
            unfold btQ
            rw [if_pos rfl]
            exact w
      · have nd : dN (f p) < 10 := Classical.byContradiction (fun y => z (if_neg y))
        rw [if_pos nd] at t0
        refine yC.mono (by omega) ?_ (c48 xs d m h k hk hk2 p hp)
        intro r m2 w
        have K := numT_K f n p (rn f (isDg 10) (n - p) p) (dv f 10 (n - p) p 0)
        have w2 := tkT.ofZ w K
        obtain ⟨u, rfl⟩ := w2.ex
        exact ⟨u, rfl, by rw [t0]; exact btQ.ofT w2 (by omega) (by omega)⟩
    refine ⟨fun z => b56 (fun y => z y.1), fun z => ?_⟩
    rw [nI_1]
    refine y_ci (c36x xs d m h (p + 1) (by omega)) (by omega) ?_
    have i35 : bc f n (p + 1) = 35 ↔ p + 1 < n ∧ f (p + 1) = 35 := bc_eq (k := 35) (by decide) (fun z => (hf _ z).1)
    rw [i35]
    refine ⟨fun y => b56 (fun x => y x.2), fun y => ?_⟩
    rw [if_pos ⟨z, y⟩] at t0
    refine yC.mono (by omega) ?_ (c42 xs d m h k hk hk2 p (by omega))
    intro r m2 w
    have K := timT_K f n p (rn f (isDg 10) (n - (p + 2)) (p + 2)) (dv f 10 (n - (p + 2)) (p + 2) 0)
    have w2 := tkT.ofZ w K
    obtain ⟨u, rfl⟩ := w2.ex
    exact ⟨u, rfl, by rw [t0]; exact btQ.ofT w2 (by omega) (by omega)⟩
  · have hp2 : ¬ p < n := fun z => by
      rw [bc_c z] at q
      exact absurd (show nI (f p) < 0 by rw [q]; decide) (nI_pos (by have := (hf p z).1; omega))
    refine y_cv (c39 xs d m _ _ _ k hk hk2) (by omega) ?_
    have t0 : tkAt f n p = (0, 0, p) := by unfold tkAt; rw [if_pos hp2]
    rw [t0, h5]
    unfold btQ
    rw [if_neg (show ¬ ((0, 0, p) : Nat × Nat × Nat).1 = 1 from fun z => absurd z (show ¬ (0 : Nat) = 1 by decide)), if_pos rfl]
    exact ⟨rfl, rfl⟩
