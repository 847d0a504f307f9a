/-! TOOLS for the rows of wp.py -/
theorem y_ci {G : xG} {d d' j : Nat} {as : List Value} {m m' : yM} {v : Int32} {P : Int32 → yM → Prop} (h : yC G d j as m (fun r m1 => r = some (.int v) ∧ m1 = m')) (hd : d ≤ d') (k : P v m') : yC G d' j as m (fun r m1 => ∃ u, r = some (Value.int u) ∧ P u m1) :=
  yC.mono hd (fun _ _ q => ⟨v, q.1, by rw [q.2]; exact k⟩) h
theorem y_cl {G : xG} {d d' j : Nat} {as : List Value} {m m' : yM} {v : Int64} {P : Int64 → yM → Prop} (h : yC G d j as m (fun r m1 => r = some (.long v) ∧ m1 = m')) (hd : d ≤ d') (k : P v m') : yC G d' j as m (fun r m1 => ∃ u, r = some (Value.long u) ∧ P u m1) :=
  yC.mono hd (fun _ _ q => ⟨v, q.1, by rw [q.2]; exact k⟩) h
theorem y_cv {G : xG} {d d' j : Nat} {as : List Value} {m m' : yM} {P : yM → Prop} (h : yC G d j as m (fun r m1 => r = none ∧ m1 = m')) (hd : d ≤ d') (k : P m') : yC G d' j as m (fun r m1 => r = none ∧ P m1) :=
  yC.mono hd (fun _ _ q => ⟨q.1, by rw [q.2]; exact k⟩) h
/-! TOKENS OF THE CLASS: numbers and times -/
theorem tkR.ex {m : yM} {k p n : Nat} {t : Nat × Nat × Nat} {kd : Int32} {r : Option Value} {m' : yM} (h : tkR m k p n t kd r m') : ∃ u, r = some (Value.int u) := by
  unfold tkR at h
  split at h
  · exact ⟨_, h.1⟩
  · exact ⟨_, h.1⟩
def tkZ (m : yM) (k p n : Nat) (t : Nat × Nat × Nat) (kd : Int32) (r : Option Value) (m' : yM) : Prop := ∃ z : Int32, tkR (y_si m 8 7 z) k p n t kd r m'
/-- a number whose first digit is at p -/
def numT (f : Nat → Nat) (n p E V : Nat) : Nat × Nat × Nat := if E < n ∧ f E = 35 then (if V = 16 ∨ V = 2 then (if rn f (isDg V) (n - (E + 1)) (E + 1) = E + 1 then (5, 4, 0) else finN f n (rn f (isDg V) (n - (E + 1)) (E + 1)) (dv f V (n - (E + 1)) (E + 1) 0)) else (5, 4, 0)) else finN f n E V
theorem finN_cap (f : Nat → Nat) (n e V : Nat) : finN f n e (min V 1099511627776) = finN f n e V := by
  by_cases h : V ≤ 1099511627776
  · rw [Nat.min_eq_left h]
  · unfold finN; rw [if_pos (Or.inl (by omega)), if_pos (Or.inl (by omega))]
theorem lc_eq {V c : Nat} (hc : c < 1099511627776) : (lg_cmp (lN (min V 1099511627776)) (lN c) = 0) ↔ V = c := by
  rw [lg_cmp_eq, pk_lEQ (by omega) (by omega)]
  omega
theorem y_si_si (m : yM) (k i : Nat) (v w : Int32) : y_si (y_si m k i v) k i w = y_si m k i w := by
  refine Prod.ext (funext fun a => funext fun b => ?_) rfl
  simp only [y_si_at]
  split <;> rfl
theorem c48 (xs : List Int32) (d : Nat) (m : yM) {f : Nat → Nat} {n : Nat} (h : TX m f n) (k : Nat) (hk : m.1 8 6 = nI k) (hk2 : k ≤ 8192) (p : Nat) (hp : p ≤ n) : yC (xg xs) (d + 4) 48 [.ref 8, .int (nI p)] m (tkZ m k p n (numT f n p (rn f (isDg 10) (n - p) p) (dv f 10 (n - p) p 0)) 65) := by
  have hf := h.2.2.2
  have h8 := h.2.2.1
  have h5 := h.2.1
  have he := rn_le f (isDg 10) (n - p) p
  have c := c43 xs d m h 10 (by decide) (by decide) p hp
  generalize hE : rn f (isDg 10) (n - p) p = E at *
  generalize hV : dv f 10 (n - p) p 0 = V at *
  refine w48_0 xs (d + 3) _ m _ ?_
  refine y_cl c (by omega) ?_
  have h1 : TX (y_si m 8 7 (nI E)) f n := h.si (by decide) (Or.inr (by decide))
  have hk1 : (y_si m 8 7 (nI E)).1 8 6 = nI k := by rw [y_si_at, if_neg (by decide)]; exact hk
  have hb : bc f n E = 35 ↔ (E < n ∧ f E = 35) := bc_eq (k := 35) (by decide) (fun z => (hf E z).1)
  have fin : ∀ (e W : Nat) (z : Int32) (m2 : yM), TX m2 f n → m2.1 8 6 = nI k → m2.1 8 7 = nI e → e ≤ n → numT f n p E V = finN f n e W → m2 = y_si m 8 7 z → yP (xg xs) (d + 3 + 1) 48 77 [(0, .ref 8), (1, .int (nI p)), (2, .long (lN (min W 1099511627776)))] [] m2 (tkZ m k p n (numT f n p E V) 65) := by
    intro e W z m2 g1 g2 g3 g4 g5 g6
    refine w48_77 xs (d + 3) _ _ _ _ ?_
    refine yC.mono (by omega) ?_ (c46 xs d m2 g1 k g2 hk2 p e (min W 1099511627776) g3 (by omega) (by omega))
    intro r m3 q
    obtain ⟨u, rfl⟩ := q.ex
    rw [finN_cap, ← g5, g6] at q
    exact ⟨u, rfl, z, q⟩
  have bad : ∀ (z : Int32), numT f n p E V = (5, 4, 0) → yC (xg xs) (d + 3) 38 [.ref 8, .int (4 : Int32), .int (nI p)] (y_si m 8 7 z) (fun v3 m3 => ∃ u3, v3 = some (Value.int u3) ∧ tkZ m k p n (numT f n p E V) 65 (some (.int u3)) m3) := by
    intro z g
    refine y_ci (c38 xs d (y_si m 8 7 z) 4 (nI p) k (by rw [y_si_at, if_neg (by decide)]; exact hk) hk2) (by omega) ?_
    refine ⟨z, tkR.bad g ?_ rfl⟩
    rw [y_si_at, if_neg (by decide), h5]
  rw [y_si_same]
  refine y_ci (c36x xs d _ h1 E (by omega)) (by omega) ?_
  refine ⟨fun q => ?_, fun q => ?_⟩
  · exact fin E V _ _ h1 hk1 (y_si_same _ _ _ _) (by omega) (if_neg (fun z => q (hb.mpr z))) rfl
  · have q2 := hb.mp q
    have big : V = 16 ∨ V = 2 → yP (xg xs) (d + 3 + 1) 48 44 [(0, .ref 8), (1, .int (nI p)), (2, .long (lN (min V 1099511627776)))] [] (y_si m 8 7 (nI E)) (tkZ m k p n (numT f n p E V) 65) := by
      intro hv
      refine w48_44 xs (d + 3) _ _ _ _ ?_
      have e2 : (lN (min V 1099511627776)).toInt32 = nI V := by rw [lN_i, Nat.min_eq_left (by omega)]
      rw [y_si_same, e2, nI_1]
      have c2 := c43 xs d _ h1 V (by omega) (by omega) (E + 1) (by omega)
      have he2 := rn_le f (isDg V) (n - (E + 1)) (E + 1)
      have hn : numT f n p E V = if rn f (isDg V) (n - (E + 1)) (E + 1) = E + 1 then (5, 4, 0) else finN f n (rn f (isDg V) (n - (E + 1)) (E + 1)) (dv f V (n - (E + 1)) (E + 1) 0) := by
        unfold numT
        rw [if_pos q2, if_pos hv]
      generalize rn f (isDg V) (n - (E + 1)) (E + 1) = E2 at *
      generalize dv f V (n - (E + 1)) (E + 1) 0 = V2 at *
      rw [y_si_si] at c2
      refine y_cl c2 (by omega) ?_
      rw [y_si_same]
      refine ⟨fun g => ?_, fun g => ?_⟩
      · refine fin E2 V2 _ _ (h.si (by decide) (Or.inr (by decide))) (by rw [y_si_at, if_neg (by decide)]; exact hk) (y_si_same _ _ _ _) (by omega) ?_ rfl
        rw [hn, if_neg (fun z => g (by rw [z]))]
      · refine bad _ ?_
        rw [hn, if_pos ((nI_eq (by omega) (by omega)).mp g)]
    refine ⟨fun g => big (Or.inl ((lc_eq (c := 16) (by decide)).mp g)), fun g => ⟨fun g2 => big (Or.inr ((lc_eq (c := 2) (by decide)).mp g2)), fun g2 => ?_⟩⟩
    refine bad _ ?_
    unfold numT
    rw [if_pos q2, if_neg (fun z => z.elim (fun z => g ((lc_eq (c := 16) (by decide)).mpr z)) (fun z => g2 ((lc_eq (c := 2) (by decide)).mpr z)))]
theorem bc_gr {f : Nat → Nat} {n i k : Nat} (hk : k < 256) (hf : i < n → f i < 256) : gr_ (bc f n i) = nI k ↔ i < n ∧ gN (f i) = k := by
  unfold bc
  by_cases h : i < n
  · rw [if_pos h, gr_N _ (hf h), nI_eq (by have := gN_lt _ (hf h); omega) (by omega)]
    exact ⟨fun z => ⟨h, z⟩, fun z => z.2⟩
  · rw [if_neg h, gr_m1]
    constructor
    · intro z
      exact absurd (show (nI k : Int32) < 0 by rw [← z]; decide) (nI_pos (by omega))
    · intro z
      exact absurd z.1 h
/-- a time whose first digit is at p + 2 -/
def timT (f : Nat → Nat) (n p E V : Nat) : Nat × Nat × Nat := if E = p + 2 then (5, 4, 0) else if (E < n ∧ gN (f E) = 77) ∧ (E + 1 < n ∧ gN (f (E + 1)) = 83) then finN f n (E + 2) V else if E < n ∧ gN (f E) = 83 then finN f n (E + 1) (V * 1000) else if E < n ∧ gN (f E) = 77 then finN f n (E + 1) (V * 60000) else if E < n ∧ gN (f E) = 72 then finN f n (E + 1) (V * 3600000) else (5, 4, 0)
theorem finN_capm (f : Nat → Nat) (n e V F : Nat) (hF : 1 ≤ F) : finN f n e (min V 1099511627776 * F) = finN f n e (V * F) := by
  by_cases h : V ≤ 1099511627776
  · rw [Nat.min_eq_left h]
  · have h1 : V ≤ V * F := Nat.le_mul_of_pos_right V (by omega)
    rw [Nat.min_eq_right (by omega)]
    unfold finN
    rw [if_pos (Or.inl (by omega)), if_pos (Or.inl (by omega))]
theorem c42 (xs : List Int32) (d : Nat) (m : yM) {f : Nat → Nat} {n : Nat} (h : TX m f n) (k : Nat) (hk : m.1 8 6 = nI k) (hk2 : k ≤ 8192) (p : Nat) (hp : p + 2 ≤ n) : yC (xg xs) (d + 4) 42 [.ref 8, .int (nI p)] m (tkZ m k p n (timT f n p (rn f (isDg 10) (n - (p + 2)) (p + 2)) (dv f 10 (n - (p + 2)) (p + 2) 0)) 65) := by
  have hf := h.2.2.2
  have h8 := h.2.2.1
  have h5 := h.2.1
  have he := rn_le f (isDg 10) (n - (p + 2)) (p + 2)
  have c := c43 xs d m h 10 (by decide) (by decide) (p + 2) hp
  generalize rn f (isDg 10) (n - (p + 2)) (p + 2) = E at *
  generalize dv f 10 (n - (p + 2)) (p + 2) 0 = V at *
  refine w42_0 xs (d + 3) _ m _ ?_
  rw [show nI p + 2 = nI (p + 2) from nI_add p 2]
  refine y_cl c (by omega) ?_
  have tx : ∀ z, TX (y_si m 8 7 z) f n := fun z => h.si (by decide) (Or.inr (by decide))
  have hk1 : ∀ z, (y_si m 8 7 z).1 8 6 = nI k := fun z => by rw [y_si_at, if_neg (by decide)]; exact hk
  have bad : ∀ (z : Int32), timT f n p E V = (5, 4, 0) → yC (xg xs) (d + 3) 38 [.ref 8, .int (4 : Int32), .int (nI p)] (y_si m 8 7 z) (fun v3 m3 => ∃ u3, v3 = some (Value.int u3) ∧ tkZ m k p n (timT f n p E V) 65 (some (.int u3)) m3) := by
    intro z g
    refine y_ci (c38 xs d (y_si m 8 7 z) 4 (nI p) k (hk1 z) hk2) (by omega) ?_
    refine ⟨z, tkR.bad g ?_ rfl⟩
    rw [y_si_at, if_neg (by decide), h5]
  have fin : ∀ (e W : Nat), e ≤ n + 2 → W < 2 ^ 63 → finN f n e W = timT f n p E V → yP (xg xs) (d + 3 + 1) 42 150 [(0, .ref 8), (1, .int (nI p)), (2, .long (lN W))] [] (y_si m 8 7 (nI e)) (tkZ m k p n (timT f n p E V) 65) := by
    intro e W g1 g2 g3
    refine w42_150 xs (d + 3) _ _ _ _ ?_
    refine yC.mono (by omega) ?_ (c46 xs d _ (tx _) k (hk1 _) hk2 p e W (y_si_same _ _ _ _) (by omega) g2)
    intro r m3 q
    obtain ⟨u, rfl⟩ := q.ex
    rw [g3] at q
    exact ⟨u, rfl, _, q⟩
  rw [y_si_same]
  refine ⟨fun q => ?_, fun q => ?_⟩
  · have hne : ¬ E = p + 2 := fun z => q (by rw [z])
    refine y_ci (c36x xs d _ (tx _) E (by omega)) (by omega) ?_
    refine y_ci (c41 xs d _ _) (by omega) ?_
    have g83 := bc_gr (f := f) (n := n) (i := E) (k := 83) (by decide) (fun z => (hf E z).1)
    have g77 := bc_gr (f := f) (n := n) (i := E) (k := 77) (by decide) (fun z => (hf E z).1)
    have g72 := bc_gr (f := f) (n := n) (i := E) (k := 72) (by decide) (fun z => (hf E z).1)
    have gs := bc_gr (f := f) (n := n) (i := E + 1) (k := 83) (by decide) (fun z => (hf (E + 1) z).1)
    have hm : min V 1099511627776 ≤ 1099511627776 := Nat.min_le_right _ _
    have far : ¬ ((E < n ∧ gN (f E) = 77) ∧ (E + 1 < n ∧ gN (f (E + 1)) = 83)) → yP (xg xs) (d + 3 + 1) 42 78 [(0, .ref 8), (1, .int (nI p)), (2, .long (lN (min V 1099511627776))), (4, .int (gr_ (bc f n E)))] [] (y_si m 8 7 (nI E)) (tkZ m k p n (timT f n p E V) 65) := by
      intro g
      have mul : ∀ (F : Nat), 1 ≤ F → F ≤ 3600000 → finN f n (E + 1) (V * F) = timT f n p E V → yP (xg xs) (d + 3 + 1) 42 127 [(0, .ref 8), (1, .int (nI p))] [.int (nI F), .long (lN (min V 1099511627776))] (y_si m 8 7 (nI E)) (tkZ m k p n (timT f n p E V) 65) := by
        intro F f1 f2 f3
        refine w42_127 xs (d + 3) _ _ _ _ _ ?_
        rw [nI_l (by omega), lN_mul, y_si_same, y_si_si, nI_1]
        have f4 : min V 1099511627776 * F ≤ 1099511627776 * 3600000 := Nat.mul_le_mul hm f2
        exact fin (E + 1) _ (by omega) (by omega) (by rw [finN_capm _ _ _ _ _ f1]; exact f3)
      have t0 : timT f n p E V = if E < n ∧ gN (f E) = 83 then finN f n (E + 1) (V * 1000) else if E < n ∧ gN (f E) = 77 then finN f n (E + 1) (V * 60000) else if E < n ∧ gN (f E) = 72 then finN f n (E + 1) (V * 3600000) else (5, 4, 0) := by
        unfold timT
        rw [if_neg hne, if_neg g]
      have go99 : (E < n ∧ gN (f E) = 83) ∨ (E < n ∧ gN (f E) = 77) ∨ (E < n ∧ gN (f E) = 72) → yP (xg xs) (d + 3 + 1) 42 99 [(0, .ref 8), (1, .int (nI p)), (2, .long (lN (min V 1099511627776))), (4, .int (gr_ (bc f n E)))] [] (y_si m 8 7 (nI E)) (tkZ m k p n (timT f n p E V) 65) := by
        intro g0
        refine w42_99 xs (d + 3) _ _ _ _ _ ⟨fun g1 => ⟨fun g2 => mul 3600000 (by decide) (by decide) ?_, fun g2 => mul 60000 (by decide) (by decide) ?_⟩, fun g1 => mul 1000 (by decide) (by decide) ?_⟩
        · rw [t0, if_neg (fun z => g1 (g83.mpr z)), if_neg (fun z => g2 (g77.mpr z))]
          rcases g0 with z | z | z
          · exact absurd (g83.mpr z) g1
          · exact absurd (g77.mpr z) g2
          · rw [if_pos z]
        · rw [t0, if_neg (fun z => g1 (g83.mpr z)), if_pos (g77.mp g2)]
        · rw [t0, if_pos (g83.mp g1)]
      refine w42_78 xs (d + 3) _ _ _ _ _ ⟨fun g1 => go99 (Or.inl (g83.mp g1)), fun g1 => ⟨fun g2 => go99 (Or.inr (Or.inl (g77.mp g2))), fun g2 => ⟨fun g3 => bad _ ?_, fun g3 => go99 (Or.inr (Or.inr (g72.mp g3)))⟩⟩⟩
      rw [t0, if_neg (fun z => g1 (g83.mpr z)), if_neg (fun z => g2 (g77.mpr z)), if_neg (fun z => g3 (g72.mpr z))]
    refine ⟨fun g1 => far (fun z => g1 (g77.mpr z.1)), fun g1 => ?_⟩
    rw [y_si_same, nI_1]
    refine y_ci (c36x xs d _ (tx _) (E + 1) (by omega)) (by omega) ?_
    refine y_ci (c41 xs d _ _) (by omega) ?_
    refine ⟨fun g2 => far (fun z => g2 (gs.mpr z.2)), fun g2 => ?_⟩
    have l2 := gs.mp g2
    rw [y_si_same, y_si_si, show nI E + 2 = nI (E + 2) from nI_add E 2]
    refine fin (E + 2) _ (by omega) (by omega) ?_
    rw [finN_cap]
    unfold timT
    rw [if_neg hne, if_pos ⟨g77.mp g1, l2⟩]
  · refine bad _ ?_
    unfold timT
    rw [if_pos ((nI_eq (by omega) (by omega)).mp q)]
