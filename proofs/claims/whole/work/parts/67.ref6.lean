/-! TOKENS OF THE REFERENCE: names -/
def nrAt (m : yM) (a n : Nat) : List Int32 := (List.range n).map (fun i => m.1 60 (a + i))
theorem nrAt_len (m : yM) (a n : Nat) : (nrAt m a n).length = n := by simp [nrAt]
theorem nrAt_get {m : yM} {a n e : Nat} (h : e < n) : (nrAt m a n).getD e 0 = m.1 60 (a + e) := by simp [nrAt, h, List.getD_eq_getElem?_getD]
theorem nrAt_s (m : yM) (a n : Nat) : nrAt m a (n + 1) = nrAt m a n ++ [m.1 60 (a + n)] := by simp [nrAt, List.range_succ]
theorem nrAt_eq {m m' : yM} {a b n : Nat} : nrAt m a n = nrAt m' b n ↔ ∀ i, i < n → m.1 60 (a + i) = m'.1 60 (b + i) := by
  unfold nrAt
  rw [List.map_inj_left]
  simp
/-- the reference's table holds just these names -/
def NR (m : yM) (Rs : List (List Int32)) : Prop := m.1 58 12 = nI Rs.length ∧ (∀ i, i ≤ Rs.length → m.1 61 i = nI (offs Rs i)) ∧ (∀ i, i < Rs.length → nrAt m (offs Rs i) (Rs.getD i []).length = Rs.getD i []) ∧ Rs.Nodup
def Kr (m m' : yM) : Prop := (∀ a i, a ≠ 60 → a ≠ 61 → ¬ (a = 58 ∧ i = 12) → m'.1 a i = m.1 a i) ∧ m'.2 = m.2
theorem Kr.rf (m : yM) : Kr m m := ⟨fun _ _ _ _ _ => rfl, rfl⟩
theorem Kr.si {m m' : yM} {k i : Nat} {v : Int32} (h : Kr m m') (hk : k = 60 ∨ k = 61 ∨ (k = 58 ∧ i = 12)) : Kr m (y_si m' k i v) := ⟨fun a b h1 h2 h3 => by rw [y_si_at, if_neg (by omega)]; exact h.1 a b h1 h2 h3, h.2⟩
theorem Kr.ty {m m' : yM} {f : Nat → Nat} {n : Nat} (h : Kr m m') (ht : TY m f n) : TY m' f n := by
  obtain ⟨h1, h2, h3⟩ := ht
  exact ⟨by rw [h.1 58 2 (by decide) (by decide) (by decide)]; exact h1, h2, fun i hi => ⟨(h3 i hi).1, by rw [h.1 59 i (by decide) (by decide) (by omega)]; exact (h3 i hi).2⟩⟩
def NaR (m : yM) (Rs : List (List Int32)) (w : List Int32) (r : Option Value) (m' : yM) : Prop := ∃ (j : Nat) (Rs' : List (List Int32)), r = some (.int (nI j)) ∧ NR m' Rs' ∧ Kr m m' ∧ j < Rs'.length ∧ Rs'.getD j [] = w ∧ ((Rs' = Rs ∧ w ∈ Rs) ∨ (w ∉ Rs ∧ Rs' = Rs ++ [w] ∧ j = Rs.length))
theorem c287I (xs : List Int32) (d : Nat) (m : yM) {f : Nat → Nat} {n : Nat} (h : TY m f n) (p s : Nat) (h5 : m.1 58 5 = nI p) (hs : p + s ≤ n) (Rs : List (List Int32)) (hR : NR m Rs) (hl : Rs.length ≤ 8192) (ho : offs Rs Rs.length + s ≤ 8200) (i : Nat) (hi : i < Rs.length) (Q : Option Value → yM → Prop) (K : ¬ Rs.getD i [] = nmT f p s → yP (xg xs) (d + 2) 287 2 [(0, .ref 58), (1, .int (nI s)), (2, .int (nI (i + 1)))] [] m Q) (K2 : Rs.getD i [] = nmT f p s → Q (some (.int (nI i))) m) : ∀ q j : Nat, j + q = s → ∀ fl : Int32, (fl = 1 ∧ (Rs.getD i []).length = s ∧ ∀ e, e < j → (Rs.getD i []).getD e 0 = (nmT f p s).getD e 0) ∨ (fl = 0 ∧ ¬ Rs.getD i [] = nmT f p s) → yP (xg xs) (d + 2) 287 41 [(0, .ref 58), (1, .int (nI s)), (2, .int (nI i)), (3, .int (nI (offs Rs i))), (4, .int fl), (5, .int (nI j))] [] m Q := by
  have h8 := h.2.1
  have hf := h.2.2
  have hoj := offs_s Rs hi
  have hom := offs_mono Rs (i := i + 1) (j := Rs.length) (by omega) (Nat.le_refl _)
  have fin : ∀ fl : Int32, (fl = 1 ∧ Rs.getD i [] = nmT f p s) ∨ (fl = 0 ∧ ¬ Rs.getD i [] = nmT f p s) → yP (xg xs) (d + 1 + 1) 287 91 [(0, .ref 58), (1, .int (nI s)), (2, .int (nI i)), (4, .int fl)] [] m Q := by
    intro fl hfl
    refine w287_91 xs (d + 1) _ _ _ m _ ⟨fun z => ?_, fun z => ?_⟩
    · rcases hfl with ⟨rfl, -⟩ | ⟨-, g⟩
      · exact absurd z (by decide)
      · rw [nI_1]
        exact K g
    · rcases hfl with ⟨-, g⟩ | ⟨rfl, -⟩
      · exact K2 g
      · exact absurd rfl z
  intro q
  induction q with
  | zero =>
    intro j hj fl hfl
    refine w287_41 xs (d + 1) _ _ _ _ _ m _ ⟨fun _ => fin fl ?_, fun z => absurd (nI_le (by omega) (by omega)) z⟩
    rcases hfl with ⟨g1, g2, g3⟩ | g
    · exact Or.inl ⟨g1, li_ext (by rw [nmT_len]; exact g2) (fun e he => g3 e (by omega))⟩
    · exact Or.inr g
  | succ q ih =>
    intro j hj fl hfl
    refine w287_41 xs (d + 1) _ _ _ _ _ m _ ⟨fun z => absurd z (nI_ge (by omega) (by omega)), fun _ => ⟨fun z => ?_, fun z => ?_⟩⟩
    · rcases hfl with ⟨rfl, -⟩ | g
      · exact absurd z (by decide)
      · exact fin fl (Or.inr g)
    · rcases hfl with ⟨g1, g2, g3⟩ | ⟨rfl, -⟩
      · have hjs : j < s := by omega
        have ew : (nmT f p s).getD j 0 = nI (gN (f (p + j))) := nmT_get hjs
        have er : gr_ (rc f n (p + j)) = nI (gN (f (p + j))) := by rw [show rc f n (p + j) = nI (f (p + j)) from if_pos (by omega), gr_N _ (hf _ (by omega)).1]
        have el : m.1 60 (offs Rs i + j) = (Rs.getD i []).getD j 0 := by
          rw [← hR.2.2.1 i hi, nrAt_get (by omega)]
        rw [nI_add, nI_clamp (by omega), el, h5, nI_add]
        refine ⟨x_in_nI (by omega) (by decide), ?_⟩
        refine y_ci (c274x xs d m h (p + j) (by omega)) (by omega) ?_
        refine y_ci (c279 xs d m _) (by omega) ?_
        rw [er]
        refine ⟨fun y => w287_83 xs (d + 1) _ _ _ _ _ m _ ?_, fun y => w287_83 xs (d + 1) _ _ _ _ _ m _ ?_⟩
        · rw [nI_1]
          exact ih (j + 1) (by omega) 0 (Or.inr ⟨rfl, fun x => y (by rw [x, ew])⟩)
        · rw [nI_1]
          refine ih (j + 1) (by omega) 1 (Or.inl ⟨rfl, g2, fun e he => ?_⟩)
          rcases Nat.lt_or_ge e j with x | x
          · exact g3 e x
          · rw [show e = j by omega, ew]
            exact y
      · exact absurd rfl z
theorem c287N (xs : List Int32) (d : Nat) (m : yM) {f : Nat → Nat} {n : Nat} (h : TY m f n) (p s : Nat) (h5 : m.1 58 5 = nI p) (hs : p + s ≤ n) (hc : ∀ i, p ≤ i → i < p + s → isPN (f i)) (Rs : List (List Int32)) (hR : NR m Rs) (hl : Rs.length ≤ 8192) (ho : offs Rs Rs.length + s ≤ 8200) (hnew : nmT f p s ∉ Rs) : ∀ q j : Nat, j + q = s → ∀ m2 : yM, NR m2 Rs → Kr m m2 → nrAt m2 (offs Rs Rs.length) j = nmT f p j → yP (xg xs) (d + 2) 287 106 [(0, .ref 58), (1, .int (nI s)), (2, .int (nI j))] [] m2 (NaR m Rs (nmT f p s)) := by
  have h8 := h.2.1
  intro q
  induction q with
  | zero =>
    intro j hj m2 g1 g2 g3
    have e : j = s := by omega
    subst e
    obtain ⟨r1, r2, r3, r4⟩ := g1
    refine w287_106 xs (d + 1) _ _ m2 _ ⟨fun _ => ?_, fun z => absurd (Int32.le_refl _) z⟩
    rw [r1, nI_1, nI_clamp (by omega), nI_clamp (by omega), r2 _ (Nat.le_refl _), nI_add, nI_pred]
    refine ⟨x_in_nI (by omega) (by decide), x_in_nI (by omega) (by decide), ?_⟩
    have gl : ∀ i, i < Rs.length → (Rs ++ [nmT f p j]).getD i [] = Rs.getD i [] := fun i hi => by simp [List.getElem?_append_left hi]
    have gn : (Rs ++ [nmT f p j]).getD Rs.length [] = nmT f p j := by simp
    refine ⟨Rs.length, Rs ++ [nmT f p j], rfl, ⟨?_, fun i hi => ?_, fun i hi => ?_, ?_⟩, (g2.si (by omega)).si (by omega), by simp, gn, Or.inr ⟨hnew, rfl, rfl⟩⟩
    · simp [y_si_at]
    · simp only [List.length_append, List.length_cons, List.length_nil] at hi
      rw [y_si_at, if_neg (by omega), y_si_at]
      by_cases z : i = Rs.length + 1
      · rw [if_pos ⟨rfl, z⟩, z, offs_a1, nmT_len]
      · rw [if_neg (fun y => z y.2), r2 i (by omega), offs_a _ _ (by omega)]
    · simp only [List.length_append, List.length_cons, List.length_nil] at hi
      rcases Nat.lt_or_ge i Rs.length with z | z
      · rw [gl i z, offs_a _ _ (by omega), ← r3 i z]
        rw [nrAt_len]
        refine nrAt_eq.mpr (fun e _ => ?_)
        rw [y_si_at, if_neg (by omega), y_si_at, if_neg (by omega)]
      · rw [show i = Rs.length by omega, gn, offs_a _ _ (Nat.le_refl _), nmT_len, ← g3]
        refine nrAt_eq.mpr (fun e _ => ?_)
        rw [y_si_at, if_neg (by omega), y_si_at, if_neg (by omega)]
    · rw [List.nodup_append]
      refine ⟨r4, by simp, ?_⟩
      intro a ha b hb3
      simp only [List.mem_singleton] at hb3
      subst hb3
      intro z
      subst z
      exact hnew ha
  | succ q ih =>
    intro j hj m2 g1 g2 g3
    have hjs : j < s := by omega
    have ht := g2.ty h
    have hf := ht.2.2
    have r1 := g1.1
    have r2 := g1.2.1
    have e5 : m2.1 58 5 = nI p := by rw [g2.1 58 5 (by decide) (by decide) (by decide)]; exact h5
    have g := (hf (p + j) (by omega)).1
    have lo := isPN_lo _ g (hc (p + j) (by omega) (by omega))
    have er : gr_ (rc f n (p + j)) = nI (gN (f (p + j))) := by rw [show rc f n (p + j) = nI (f (p + j)) from if_pos (by omega), gr_N _ g]
    refine w287_106 xs (d + 1) _ _ m2 _ ⟨fun z => absurd z (nI_ge hjs (by omega)), fun _ => ?_⟩
    rw [r1, nI_clamp (by omega), r2 _ (Nat.le_refl _), e5, nI_add, nI_add, nI_clamp (by omega), nI_1]
    refine ⟨x_in_nI (by omega) (by decide), ?_⟩
    refine y_ci (c274x xs d m2 ht (p + j) (by omega)) (by omega) ?_
    refine y_ci (c279 xs d m2 _) (by omega) ?_
    rw [er, by8_lo _ lo.2, pk_vbN lo.2]
    refine ⟨x_in_nI (by omega) (by decide), ?_⟩
    refine ih (j + 1) (by omega) _ ⟨?_, fun i hi => ?_, fun i hi => ?_, g1.2.2.2⟩ (g2.si (by omega)) ?_
    · rw [y_si_at, if_neg (by omega)]; exact r1
    · rw [y_si_at, if_neg (by omega)]; exact r2 i hi
    · refine Eq.trans (nrAt_eq.mpr (fun e he => ?_)) (g1.2.2.1 i hi)
      have q1 := offs_s Rs hi
      have q2 := offs_mono Rs (i := i + 1) (j := Rs.length) (by omega) (Nat.le_refl _)
      rw [y_si_at, if_neg (by omega)]
    · rw [nrAt_s, nmT_s]
      congr 1
      · refine Eq.trans (nrAt_eq.mpr (fun e he => ?_)) g3
        rw [y_si_at, if_neg (by omega)]
      · rw [y_si_at, if_pos ⟨rfl, rfl⟩]
theorem c287 (xs : List Int32) (d : Nat) (m : yM) {f : Nat → Nat} {n : Nat} (h : TY m f n) (p s : Nat) (h5 : m.1 58 5 = nI p) (hs : p + s ≤ n) (hc : ∀ i, p ≤ i → i < p + s → isPN (f i)) (Rs : List (List Int32)) (hR : NR m Rs) (hl : Rs.length ≤ 8192) (ho : offs Rs Rs.length + s ≤ 8200) : yC (xg xs) (d + 2) 287 [.ref 58, .int (nI s)] m (NaR m Rs (nmT f p s)) := by
  have h8 := h.2.1
  have lp : ∀ q i : Nat, i + q = Rs.length → (∀ k, k < i → ¬ Rs.getD k [] = nmT f p s) → yP (xg xs) (d + 1 + 1) 287 2 [(0, .ref 58), (1, .int (nI s)), (2, .int (nI i))] [] m (NaR m Rs (nmT f p s)) := by
    intro q
    induction q with
    | zero =>
      intro i hi hno
      refine w287_2 xs (d + 1) _ _ m _ ⟨fun _ => ?_, fun z => absurd (by rw [hR.1]; exact nI_le (by omega) (by omega)) z⟩
      exact c287N xs d m h p s h5 hs hc Rs hR hl ho (notin_of (fun k hk => hno k (by omega))) s 0 (by omega) m hR (Kr.rf m) rfl
    | succ q ih =>
      intro i hi hno
      have hi2 : i < Rs.length := by omega
      have r2 := hR.2.1
      refine w287_2 xs (d + 1) _ _ m _ ⟨fun z => absurd z (by rw [hR.1]; exact nI_ge hi2 (by omega)), fun _ => ?_⟩
      have hoj := offs_s Rs hi2
      have hom := offs_mono Rs (i := i + 1) (j := Rs.length) (by omega) (Nat.le_refl _)
      rw [nI_1, nI_clamp (by omega), nI_clamp (by omega), r2 i (by omega), r2 (i + 1) (by omega), pk_sub (by omega), nI_eq (by omega) (by omega)]
      refine ⟨x_in_nI (by omega) (by decide), x_in_nI (by omega) (by decide), fun z => ?_, fun z => ?_⟩
      · refine w287_36 xs (d + 1) _ _ _ _ m _ (c287I xs d m h p s h5 hs Rs hR hl ho i hi2 _ (fun y => ih (i + 1) (by omega) (fun k hk => ?_)) (fun y => ?_) s 0 (by omega) 0 (Or.inr ⟨rfl, fun y => ?_⟩))
        · rcases Nat.lt_or_ge k i with x | x
          · exact hno k x
          · rw [show k = i by omega]; exact y
        · exact ⟨i, Rs, rfl, hR, Kr.rf m, hi2, y, Or.inl ⟨rfl, by rw [← y]; simp [hi2]⟩⟩
        · have := congrArg List.length y
          rw [nmT_len] at this
          omega
      · refine w287_36 xs (d + 1) _ _ _ _ m _ (c287I xs d m h p s h5 hs Rs hR hl ho i hi2 _ (fun y => ih (i + 1) (by omega) (fun k hk => ?_)) (fun y => ?_) s 0 (by omega) 1 (Or.inl ⟨rfl, by omega, fun e he => absurd he (Nat.not_lt_zero _)⟩))
        · rcases Nat.lt_or_ge k i with x | x
          · exact hno k x
          · rw [show k = i by omega]; exact y
        · exact ⟨i, Rs, rfl, hR, Kr.rf m, hi2, y, Or.inl ⟨rfl, by rw [← y]; simp [hi2]⟩⟩
  exact w287_0 xs (d + 1) _ m _ (lp Rs.length 0 (by omega) (fun k hk => absurd hk (Nat.not_lt_zero _)))
