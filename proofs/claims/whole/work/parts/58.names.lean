/-! NAMES: laid by wip/gen/small12.py -/
/-! NAMES: the class's table of names, in pure words -/
/-- the n letters at a -/
def nmAt (m : yM) (a n : Nat) : List Int32 := (List.range n).map (fun i => m.1 13 (a + i))
theorem nmAt_len (m : yM) (a n : Nat) : (nmAt m a n).length = n := by simp [nmAt]
theorem nmAt_s (m : yM) (a n : Nat) : nmAt m a (n + 1) = nmAt m a n ++ [m.1 13 (a + n)] := by simp [nmAt, List.range_succ]
theorem nmAt_get (m : yM) (a n i : Nat) (h : i < n) : (nmAt m a n).getD i 0 = m.1 13 (a + i) := by simp [nmAt, h]
theorem nmAt_eq {m m' : yM} {a b n : Nat} : nmAt m a n = nmAt m' b n ↔ ∀ i, i < n → m.1 13 (a + i) = m'.1 13 (b + i) := by
  unfold nmAt
  rw [List.map_inj_left]
  simp
def hstep (s x : Int32) : Int32 := s * 31 + x
def hsh (w : List Int32) : Int32 := w.foldl hstep (nI w.length)
def bkI (s : Int32) : Int32 := (s ^^^ (s.toUInt32 >>> ((10 : Int32).toUInt32 &&& Int32.toUInt32 31)).toInt32) &&& 1023
def bk (w : List Int32) : Nat := (bkI (hsh w)).toNatClampNeg
theorem bkI_n (s : Int32) : ∃ j : Nat, j < 1024 ∧ bkI s = nI j := pk_andE _ 10 (by decide)
theorem bk_lt (w : List Int32) : bk w < 1024 := by
  obtain ⟨j, h, e⟩ := bkI_n (hsh w)
  unfold bk
  rw [e, nI_clamp (by omega)]
  exact h
theorem bkI_eq (w : List Int32) : bkI (hsh w) = nI (bk w) := by
  obtain ⟨j, h, e⟩ := bkI_n (hsh w)
  unfold bk
  rw [e, nI_clamp (by omega)]
/-- where name i begins -/
def offs (Ns : List (List Int32)) (i : Nat) : Nat := ((Ns.take i).map List.length).sum
theorem offs_0 (Ns : List (List Int32)) : offs Ns 0 = 0 := by simp [offs]
theorem offs_s (Ns : List (List Int32)) {i : Nat} (h : i < Ns.length) : offs Ns (i + 1) = offs Ns i + (Ns.getD i []).length := by
  unfold offs
  rw [List.take_add_one, List.map_append, List.sum_append]
  simp [h]
theorem offs_a (Ns : List (List Int32)) (w : List Int32) {i : Nat} (h : i ≤ Ns.length) : offs (Ns ++ [w]) i = offs Ns i := by
  unfold offs
  rw [List.take_append_of_le_length h]
theorem offs_a1 (Ns : List (List Int32)) (w : List Int32) : offs (Ns ++ [w]) (Ns.length + 1) = offs Ns Ns.length + w.length := by
  rw [offs_s _ (by simp), offs_a _ _ (Nat.le_refl _)]
  simp
theorem offs_mono (Ns : List (List Int32)) : ∀ {i j : Nat}, i ≤ j → j ≤ Ns.length → offs Ns i ≤ offs Ns j := by
  intro i j hij
  induction j with
  | zero => intro _; rw [Nat.le_zero.mp hij]; exact Nat.le_refl _
  | succ j ih =>
    intro hj
    rcases Nat.lt_or_ge j i with h | h
    · rw [show i = j + 1 by omega]; exact Nat.le_refl _
    · exact Nat.le_trans (ih h (by omega)) (by rw [offs_s Ns (by omega)]; omega)
/-- the last name below i in the bucket, or -1 -/
def lastB (Ns : List (List Int32)) (b : Nat) : Nat → Int32
  | 0 => -1
  | i + 1 => if bk (Ns.getD i []) = b then nI i else lastB Ns b i
theorem lastB_a (Ns : List (List Int32)) (w : List Int32) (b : Nat) : ∀ {i : Nat}, i ≤ Ns.length → lastB (Ns ++ [w]) b i = lastB Ns b i
  | 0, _ => rfl
  | i + 1, h => by
    unfold lastB
    rw [lastB_a Ns w b (by omega)]
    have e : (Ns ++ [w]).getD i [] = Ns.getD i [] := by simp [List.getElem?_append_left (show i < Ns.length by omega)]
    rw [e]
theorem lastB_cases (Ns : List (List Int32)) (b : Nat) : ∀ i : Nat, (lastB Ns b i = -1 ∧ ∀ j, j < i → bk (Ns.getD j []) ≠ b) ∨ ∃ j, j < i ∧ lastB Ns b i = nI j ∧ bk (Ns.getD j []) = b ∧ ∀ k, j < k → k < i → bk (Ns.getD k []) ≠ b
  | 0 => Or.inl ⟨rfl, fun j h => absurd h (Nat.not_lt_zero _)⟩
  | i + 1 => by
    by_cases h : bk (Ns.getD i []) = b
    · refine Or.inr ⟨i, by omega, by unfold lastB; rw [if_pos h], h, fun k h1 h2 => by omega⟩
    · have e : lastB Ns b (i + 1) = lastB Ns b i := by rw [lastB, if_neg h]
      rw [e]
      rcases lastB_cases Ns b i with ⟨h1, h2⟩ | ⟨j, h1, h2, h3, h4⟩
      · refine Or.inl ⟨h1, fun j hj => ?_⟩
        rcases Nat.lt_or_ge j i with q | q
        · exact h2 j q
        · rw [show j = i by omega]; exact h
      · refine Or.inr ⟨j, by omega, h2, h3, fun k k1 k2 => ?_⟩
        rcases Nat.lt_or_ge k i with q | q
        · exact h4 k k1 q
        · rw [show k = i by omega]; exact h
/-- the class's table holds just these names -/
def NI (m : yM) (Ns : List (List Int32)) : Prop := m.1 12 4 = nI Ns.length ∧ Ns.length ≤ 4172 ∧ (∀ i, i ≤ Ns.length → m.1 14 i = nI (offs Ns i)) ∧ offs Ns Ns.length ≤ 8704 ∧
  (∀ i, i < Ns.length → nmAt m (offs Ns i) (Ns.getD i []).length = Ns.getD i []) ∧ (∀ i, i < Ns.length → m.1 15 i = lastB Ns (bk (Ns.getD i [])) i) ∧ (∀ b, b < 1024 → m.1 16 b = lastB Ns b Ns.length) ∧ Ns.Nodup
/-- cells 12 to 16 aside all is kept -/
def Kn (m m' : yM) : Prop := (∀ a, a < 12 ∨ 16 < a → m'.1 a = m.1 a) ∧ m'.2 = m.2
theorem Kn.rf (m : yM) : Kn m m := ⟨fun _ _ => rfl, rfl⟩
theorem Kn.tr {a b c : yM} (h : Kn a b) (h2 : Kn b c) : Kn a c := ⟨fun q z => (h2.1 q z).trans (h.1 q z), h2.2.trans h.2⟩
theorem Kn.si {m : yM} {k i : Nat} {v : Int32} (h : 12 ≤ k ∧ k ≤ 16) : Kn m (y_si m k i v) := ⟨fun a z => y_si_cell m i v (by omega), rfl⟩
/-- what settle does with a new name -/
def newNm (m : yM) (k b e : Nat) : yM := y_si (y_si (y_si (y_si m 15 k (m.1 16 b)) 16 b (nI k)) 14 (k + 1) (nI e)) 12 4 (nI (k + 1))
theorem newNm_NI {m : yM} {Ns : List (List Int32)} {w : List Int32} {n : Nat} (h : NI m Ns) (hl : Ns.length < 4172) (hn : offs Ns Ns.length + n ≤ 8704) (hw : nmAt m (offs Ns Ns.length) n = w) (hnew : w ∉ Ns) : NI (newNm m Ns.length (bk w) (offs Ns Ns.length + n)) (Ns ++ [w]) := by
  obtain ⟨h1, h2, h3, h4, h5, h6, h7, h8⟩ := h
  have hlen : w.length = n := by rw [← hw, nmAt_len]
  have gl : ∀ i, i < Ns.length → (Ns ++ [w]).getD i [] = Ns.getD i [] := fun i hi => by simp [List.getElem?_append_left hi]
  have gn : (Ns ++ [w]).getD Ns.length [] = w := by simp
  have hb := bk_lt w
  refine ⟨?_, by simp; omega, ?_, ?_, ?_, ?_, ?_, ?_⟩
  · simp [newNm, y_si_at]
  · intro i hi
    simp only [List.length_append, List.length_cons, List.length_nil] at hi
    simp only [newNm, y_si_at]
    by_cases hq : i = Ns.length + 1
    · subst hq
      rw [offs_a1, hlen]
      simp
    · rw [offs_a _ _ (by omega)]
      simp [hq]
      exact h3 i (by omega)
  · rw [show (Ns ++ [w]).length = Ns.length + 1 by simp, offs_a1, hlen]
    exact hn
  · intro i hi
    simp only [List.length_append, List.length_cons, List.length_nil] at hi
    have e13 : ∀ a q, nmAt (newNm m Ns.length (bk w) (offs Ns Ns.length + n)) a q = nmAt m a q := fun a q => by
      rw [nmAt_eq]
      intro i _
      simp [newNm, y_si_at]
    rw [e13]
    by_cases hq : i = Ns.length
    · subst hq
      rw [gn, offs_a _ _ (Nat.le_refl _), hlen]
      exact hw
    · rw [gl i (by omega), offs_a _ _ (by omega)]
      exact h5 i (by omega)
  · intro i hi
    simp only [List.length_append, List.length_cons, List.length_nil] at hi
    simp only [newNm, y_si_at]
    by_cases hq : i = Ns.length
    · subst hq
      rw [gn, lastB_a _ _ _ (Nat.le_refl _), ← h7 _ hb]
      simp
    · rw [gl i (by omega), lastB_a _ _ _ (by omega), ← h6 i (by omega)]
      simp [hq]
  · intro b hb2
    rw [show (Ns ++ [w]).length = Ns.length + 1 by simp]
    simp only [newNm, y_si_at]
    rw [lastB, gn, lastB_a _ _ _ (Nat.le_refl _)]
    by_cases hq : bk w = b
    · subst hq; simp
    · rw [if_neg hq, ← h7 b hb2]
      have : ¬ b = bk w := fun z => hq z.symm
      simp [this]
  · rw [List.nodup_append]
    refine ⟨h8, by simp, ?_⟩
    intro a ha b hb3
    simp only [List.mem_singleton] at hb3
    subst hb3
    intro z
    subst z
    exact hnew ha
theorem newNm_Kn (m : yM) (k b e : Nat) : Kn m (newNm m k b e) := ((Kn.si (by omega)).tr ((Kn.si (by omega)).tr ((Kn.si (by omega)).tr (Kn.si (by omega)))))
theorem newNm_13 (m : yM) (k b e : Nat) : (newNm m k b e).1 13 = m.1 13 := by
  funext i
  simp [newNm, y_si_at]
theorem notin_of {Ns : List (List Int32)} {w : List Int32} (h : ∀ j, j < Ns.length → Ns.getD j [] ≠ w) : w ∉ Ns := by
  intro hm
  obtain ⟨j, hj, e⟩ := List.mem_iff_getElem.mp hm
  exact h j hj (by simp [hj, e])
set_option maxRecDepth 20000 in
/-- Names.isSame, its loop -/
theorem c34L (xs : List Int32) (d : Nat) (m : yM) (j a n s0 : Nat) (hj : j + 1 ≤ 4172) (hs0 : m.1 14 j = nI s0) (hb0 : s0 + n ≤ 8704) (hb1 : a + n ≤ 8704) : ∀ (q : Nat) (i : Nat), i + q = n → (∀ e, e < i → m.1 13 (s0 + e) = m.1 13 (a + e)) → yP (xg xs) d 34 24 [(4, .int (nI i)), (0, .ref 12), (1, .int (nI j)), (2, .int (nI a)), (3, .int (nI n))] [] m (fun r m' => (∃ b : Int32, r = some (.int b) ∧ (b = 1 ∧ (∀ e, e < n → m.1 13 (s0 + e) = m.1 13 (a + e)) ∨ b = 0 ∧ ¬ ∀ e, e < n → m.1 13 (s0 + e) = m.1 13 (a + e)) ∧ m' = m)) := by
  intro q
  induction q with
  | zero =>
    intro i hi hh
    have hi2 : i = n := by omega
    refine y_st rfl rfl rfl rfl rfl (fun _ _ => rfl) ?_
    refine y_st rfl rfl rfl rfl rfl (fun _ _ => rfl) ?_
    show yP (xg xs) d 34 27 [(4, .int (nI i)), (0, .ref 12), (1, .int (nI j)), (2, .int (nI a)), (3, .int (nI n))] [.int (nI n), .int (nI i)] m _
    refine y_ige (t := 64) rfl rfl rfl (fun h27 => ?_) (fun h27 => ?_)
    · refine y_st rfl rfl rfl rfl rfl (fun _ _ => rfl) ?_
      show yP (xg xs) d 34 65 [(4, .int (nI i)), (0, .ref 12), (1, .int (nI j)), (2, .int (nI a)), (3, .int (nI n))] [.int (1 : Int32)] m _
      exact y_zret rfl rfl rfl (by decide) (⟨1, rfl, Or.inl ⟨rfl, fun e he => hh e (by omega)⟩, rfl⟩)
    · exact absurd (by rw [hi2]; exact Int32.le_refl _) h27
  | succ q ih =>
    intro i hi hh
    have hi2 : i < n := by omega
    have E1 : m.1 14 (nI j).toNatClampNeg + nI i = nI (s0 + i) := by rw [nI_clamp (by omega), hs0, nI_add]
    have E1c : (m.1 14 (nI j).toNatClampNeg + nI i).toNatClampNeg = s0 + i := by rw [E1]; exact nI_clamp (by omega)
    have E2c : (nI a + nI i).toNatClampNeg = a + i := by rw [nI_add]; exact nI_clamp (by omega)
    refine y_st rfl rfl rfl rfl rfl (fun _ _ => rfl) ?_
    refine y_st rfl rfl rfl rfl rfl (fun _ _ => rfl) ?_
    show yP (xg xs) d 34 27 [(4, .int (nI i)), (0, .ref 12), (1, .int (nI j)), (2, .int (nI a)), (3, .int (nI n))] [.int (nI n), .int (nI i)] m _
    refine y_ige (t := 64) rfl rfl rfl (fun h27 => ?_) (fun h27 => ?_)
    · exact absurd h27 (nI_ge hi2 (by omega))
    · refine y_st rfl rfl rfl rfl rfl (fun _ _ => rfl) ?_
      refine y_gf rfl rfl rfl rfl rfl ?_
      refine y_st rfl rfl rfl rfl rfl (fun _ _ => rfl) ?_
      refine y_gf rfl rfl rfl rfl rfl ?_
      refine y_st rfl rfl rfl rfl rfl (fun _ _ => rfl) ?_
      show yP (xg xs) d 34 39 [(4, .int (nI i)), (0, .ref 12), (1, .int (nI j)), (2, .int (nI a)), (3, .int (nI n))] [.int (nI j), .ref 14, .ref 13] m _
      refine y_iald rfl rfl rfl (x_in_nI (by omega) (by decide)) ?_
      refine y_st rfl rfl rfl rfl rfl (fun _ _ => rfl) ?_
      refine y_st rfl rfl rfl rfl rfl (fun _ _ => rfl) ?_
      show yP (xg xs) d 34 43 [(4, .int (nI i)), (0, .ref 12), (1, .int (nI j)), (2, .int (nI a)), (3, .int (nI n))] [.int ((m.1 14 ((nI j).toNatClampNeg)) + (nI i)), .ref 13] m _
      refine y_bald rfl rfl rfl (by decide) (by rw [E1]; exact x_in_nI (by omega) (by decide)) ?_
      refine y_st rfl rfl rfl rfl rfl (fun _ _ => rfl) ?_
      refine y_gf rfl rfl rfl rfl rfl ?_
      refine y_st rfl rfl rfl rfl rfl (fun _ _ => rfl) ?_
      refine y_st rfl rfl rfl rfl rfl (fun _ _ => rfl) ?_
      refine y_st rfl rfl rfl rfl rfl (fun _ _ => rfl) ?_
      show yP (xg xs) d 34 52 [(4, .int (nI i)), (0, .ref 12), (1, .int (nI j)), (2, .int (nI a)), (3, .int (nI n))] [.int ((nI a) + (nI i)), .ref 13, .int (m.1 13 (((m.1 14 ((nI j).toNatClampNeg)) + (nI i)).toNatClampNeg))] m _
      refine y_bald rfl rfl rfl (by decide) (by rw [nI_add]; exact x_in_nI (by omega) (by decide)) ?_
      show yP (xg xs) d 34 53 [(4, .int (nI i)), (0, .ref 12), (1, .int (nI j)), (2, .int (nI a)), (3, .int (nI n))] [.int (m.1 13 (((nI a) + (nI i)).toNatClampNeg)), .int (m.1 13 (((m.1 14 ((nI j).toNatClampNeg)) + (nI i)).toNatClampNeg))] m _
      refine y_ieq (t := 58) rfl rfl rfl (fun h53 => ?_) (fun h53 => ?_)
      · rw [E1c, E2c] at h53
        refine y_st rfl rfl rfl rfl rfl (fun _ _ => rfl) ?_
        refine y_st rfl rfl rfl rfl rfl (fun _ _ => rfl) ?_
        show yP (xg xs) d 34 24 [(4, .int ((nI i) + (1 : Int32))), (0, .ref 12), (1, .int (nI j)), (2, .int (nI a)), (3, .int (nI n))] [] m _
        refine y_head (l2 := [(4, .int ((nI i) + (1 : Int32))), (0, .ref 12), (1, .int (nI j)), (2, .int (nI a)), (3, .int (nI n))]) [0, 1, 2, 3, 4] [4, 0, 1, 2, 3] 5 rfl (by decide) rfl rfl (by decide) ?_
        rw [nI_1]; exact ih (i + 1) (by omega) (fun e he => by rcases Nat.lt_or_ge e i with z | z; exact hh e z; rw [show e = i by omega]; exact h53)
      · rw [E1c, E2c] at h53
        refine y_st rfl rfl rfl rfl rfl (fun _ _ => rfl) ?_
        show yP (xg xs) d 34 57 [(4, .int (nI i)), (0, .ref 12), (1, .int (nI j)), (2, .int (nI a)), (3, .int (nI n))] [.int (0 : Int32)] m _
        exact y_zret rfl rfl rfl (by decide) (⟨0, rfl, Or.inr ⟨rfl, fun z => h53 (z i hi2)⟩, rfl⟩)
set_option maxRecDepth 20000 in
/-- Names.isSame -/
theorem c34 (xs : List Int32) (d : Nat) (m : yM) (j a n s0 l : Nat) (hj : j + 1 ≤ 4172) (hs0 : m.1 14 j = nI s0) (hs1 : m.1 14 (j + 1) = nI (s0 + l)) (hb0 : s0 + l ≤ 8704) (hb1 : a + n ≤ 8704) : yC (xg xs) d 34 [.ref 12, .int (nI j), .int (nI a), .int (nI n)] m (fun r m' => (∃ b : Int32, r = some (.int b) ∧ (b = 1 ∧ nmAt m s0 l = nmAt m a n ∨ b = 0 ∧ ¬ nmAt m s0 l = nmAt m a n) ∧ m' = m)) := by
  have E3 : m.1 14 (nI j + 1).toNatClampNeg - m.1 14 (nI j).toNatClampNeg = nI l := by rw [nI_1, nI_clamp (by omega), nI_clamp (by omega), hs1, hs0, pk_sub (by omega), show s0 + l - s0 = l by omega]
  refine y_st rfl rfl rfl rfl rfl (fun _ _ => rfl) ?_
  refine y_gf rfl rfl rfl rfl rfl ?_
  refine y_st rfl rfl rfl rfl rfl (fun _ _ => rfl) ?_
  refine y_st rfl rfl rfl rfl rfl (fun _ _ => rfl) ?_
  refine y_st rfl rfl rfl rfl rfl (fun _ _ => rfl) ?_
  show yP (xg xs) d 34 7 [(0, .ref 12), (1, .int (nI j)), (2, .int (nI a)), (3, .int (nI n))] [.int ((nI j) + (1 : Int32)), .ref 14] m _
  refine y_iald rfl rfl rfl (by rw [nI_1]; exact x_in_nI (by omega) (by decide)) ?_
  refine y_st rfl rfl rfl rfl rfl (fun _ _ => rfl) ?_
  refine y_gf rfl rfl rfl rfl rfl ?_
  refine y_st rfl rfl rfl rfl rfl (fun _ _ => rfl) ?_
  show yP (xg xs) d 34 13 [(0, .ref 12), (1, .int (nI j)), (2, .int (nI a)), (3, .int (nI n))] [.int (nI j), .ref 14, .int (m.1 14 (((nI j) + (1 : Int32)).toNatClampNeg))] m _
  refine y_iald rfl rfl rfl (x_in_nI (by omega) (by decide)) ?_
  refine y_st rfl rfl rfl rfl rfl (fun _ _ => rfl) ?_
  refine y_st rfl rfl rfl rfl rfl (fun _ _ => rfl) ?_
  show yP (xg xs) d 34 16 [(0, .ref 12), (1, .int (nI j)), (2, .int (nI a)), (3, .int (nI n))] [.int (nI n), .int ((m.1 14 (((nI j) + (1 : Int32)).toNatClampNeg)) - (m.1 14 ((nI j).toNatClampNeg)))] m _
  refine y_ieq (t := 21) rfl rfl rfl (fun h16 => ?_) (fun h16 => ?_)
  · rw [E3] at h16
    have h16 : n = l := ((nI_eq (by omega) (by omega)).mp h16).symm
    subst h16
    refine y_st rfl rfl rfl rfl rfl (fun _ _ => rfl) ?_
    refine y_st rfl rfl rfl rfl rfl (fun _ _ => rfl) ?_
    show yP (xg xs) d 34 24 [(4, .int (0 : Int32)), (0, .ref 12), (1, .int (nI j)), (2, .int (nI a)), (3, .int (nI n))] [] m _
    refine y_head (l2 := [(4, .int (0 : Int32)), (0, .ref 12), (1, .int (nI j)), (2, .int (nI a)), (3, .int (nI n))]) [0, 1, 2, 3, 4] [4, 0, 1, 2, 3] 5 rfl (by decide) rfl rfl (by decide) ?_
    refine yP.mono (Nat.le_refl _) ?_ (c34L xs d m j a n s0 hj hs0 hb0 hb1 n 0 (by omega) (fun e he => absurd he (Nat.not_lt_zero _))); rintro r m1 ⟨b, e1, e2, e3⟩; exact ⟨b, e1, by rw [nmAt_eq]; exact e2, e3⟩
  · rw [E3] at h16
    refine y_st rfl rfl rfl rfl rfl (fun _ _ => rfl) ?_
    show yP (xg xs) d 34 20 [(0, .ref 12), (1, .int (nI j)), (2, .int (nI a)), (3, .int (nI n))] [.int (0 : Int32)] m _
    exact y_zret rfl rfl rfl (by decide) (⟨0, rfl, Or.inr ⟨rfl, fun z => h16 (by have y := congrArg List.length z; rw [nmAt_len, nmAt_len] at y; rw [y])⟩, rfl⟩)
set_option maxRecDepth 20000 in
/-- Names.settle, its search -/
theorem c33S (xs : List Int32) (d : Nat) (m : yM) (Ns : List (List Int32)) (w : List Int32) (n : Nat) (h : NI m Ns) (hl : Ns.length < 4172) (hn : offs Ns Ns.length + n ≤ 8704) (hw : nmAt m (offs Ns Ns.length) n = w) (s : Int32) : ∀ (i : Nat), i ≤ Ns.length → (∀ j, i ≤ j → j < Ns.length → Ns.getD j [] ≠ w) → yP (xg xs) (d + 1) 33 63 [(5, .int (lastB Ns (bk w) i)), (4, .int (nI (bk w))), (3, .int s), (2, .int (nI (offs Ns Ns.length))), (0, .ref 12), (1, .int (nI n))] [] m (fun r m' => ((∃ j, j < Ns.length ∧ Ns.getD j [] = w ∧ r = some (.int (nI j)) ∧ m' = m) ∨ (w ∉ Ns ∧ r = some (.int (nI Ns.length)) ∧ m' = newNm m Ns.length (bk w) (offs Ns Ns.length + n)))) := by
  have hN := h
  obtain ⟨hk, h2, h3, h4, h5, h6, h7, h8⟩ := h
  have hb := bk_lt w
  have eB : (nI (bk w)).toNatClampNeg = bk w := nI_clamp (by omega)
  have eK : (nI Ns.length).toNatClampNeg = Ns.length := nI_clamp (by omega)
  have eK1 : (nI (Ns.length + 1)).toNatClampNeg = Ns.length + 1 := nI_clamp (by omega)
  intro i
  induction i using Nat.strongRecOn with
  | ind i ih =>
    intro hi hh
    rcases lastB_cases Ns (bk w) i with ⟨g1, g2⟩ | ⟨j, g1, g2, g3, g4⟩
    · rw [g1]
      have hnot : w ∉ Ns := notin_of (fun j hj z => by
        rcases Nat.lt_or_ge j i with q | q
        · exact g2 j q (by rw [z])
        · exact hh j q hj z)
      refine y_st rfl rfl rfl rfl rfl (fun _ _ => rfl) ?_
      show yP (xg xs) (d + 1) 33 65 [(5, .int ((-1) : Int32)), (4, .int (nI (bk w))), (3, .int s), (2, .int (nI (offs Ns Ns.length))), (0, .ref 12), (1, .int (nI n))] [.int ((-1) : Int32)] m _
      refine y_zlt (t := 94) rfl rfl rfl (fun h65 => ?_) (fun h65 => ?_)
      · refine y_st rfl rfl rfl rfl rfl (fun _ _ => rfl) ?_
        refine y_gf rfl rfl rfl rfl rfl ?_
        refine y_st rfl rfl rfl rfl rfl (fun _ _ => rfl) ?_
        show yP (xg xs) (d + 1) 33 101 [(5, .int ((-1) : Int32)), (4, .int (nI (bk w))), (3, .int s), (2, .int (nI (offs Ns Ns.length))), (0, .ref 12), (1, .int (nI n))] [.int (4172 : Int32), .int (m.1 12 4)] m _
        refine y_ilt (t := 107) rfl rfl rfl (fun h101 => ?_) (fun h101 => ?_)
        · refine y_st rfl rfl rfl rfl rfl (fun _ _ => rfl) ?_
          refine y_gf rfl rfl rfl rfl rfl ?_
          refine y_st rfl rfl rfl rfl rfl (fun _ _ => rfl) ?_
          refine y_gf rfl rfl rfl rfl rfl ?_
          refine y_st rfl rfl rfl rfl rfl (fun _ _ => rfl) ?_
          refine y_gf rfl rfl rfl rfl rfl ?_
          refine y_st rfl rfl rfl rfl rfl (fun _ _ => rfl) ?_
          show yP (xg xs) (d + 1) 33 121 [(5, .int ((-1) : Int32)), (4, .int (nI (bk w))), (3, .int s), (2, .int (nI (offs Ns Ns.length))), (0, .ref 12), (1, .int (nI n))] [.int (nI (bk w)), .ref 16, .int (m.1 12 4), .ref 15] m _
          refine y_iald rfl rfl rfl (x_in_nI hb (by decide)) ?_
          show yP (xg xs) (d + 1) 33 122 [(5, .int ((-1) : Int32)), (4, .int (nI (bk w))), (3, .int s), (2, .int (nI (offs Ns Ns.length))), (0, .ref 12), (1, .int (nI n))] [.int (m.1 16 ((nI (bk w)).toNatClampNeg)), .int (m.1 12 4), .ref 15] m _
          refine y_iast rfl rfl rfl (by rw [hk]; exact x_in_nI (by omega) (by decide)) ?_
          refine y_st rfl rfl rfl rfl rfl (fun _ _ => rfl) ?_
          refine y_gf rfl rfl rfl rfl rfl ?_
          refine y_st rfl rfl rfl rfl rfl (fun _ _ => rfl) ?_
          refine y_st rfl rfl rfl rfl rfl (fun _ _ => rfl) ?_
          refine y_gf rfl rfl rfl rfl rfl ?_
          show yP (xg xs) (d + 1) 33 133 [(5, .int ((-1) : Int32)), (4, .int (nI (bk w))), (3, .int s), (2, .int (nI (offs Ns Ns.length))), (0, .ref 12), (1, .int (nI n))] [.int (m.1 12 4), .int (nI (bk w)), .ref 16] (y_si m 15 ((m.1 12 4).toNatClampNeg) (m.1 16 ((nI (bk w)).toNatClampNeg))) _
          refine y_iast rfl rfl rfl (x_in_nI hb (by decide)) ?_
          refine y_st rfl rfl rfl rfl rfl (fun _ _ => rfl) ?_
          refine y_gf rfl rfl rfl rfl rfl ?_
          refine y_st rfl rfl rfl rfl rfl (fun _ _ => rfl) ?_
          refine y_gf rfl rfl rfl rfl rfl ?_
          refine y_st rfl rfl rfl rfl rfl (fun _ _ => rfl) ?_
          refine y_st rfl rfl rfl rfl rfl (fun _ _ => rfl) ?_
          refine y_st rfl rfl rfl rfl rfl (fun _ _ => rfl) ?_
          refine y_st rfl rfl rfl rfl rfl (fun _ _ => rfl) ?_
          refine y_st rfl rfl rfl rfl rfl (fun _ _ => rfl) ?_
          show yP (xg xs) (d + 1) 33 147 [(5, .int ((-1) : Int32)), (4, .int (nI (bk w))), (3, .int s), (2, .int (nI (offs Ns Ns.length))), (0, .ref 12), (1, .int (nI n))] [.int ((nI (offs Ns Ns.length)) + (nI n)), .int ((m.1 12 4) + (1 : Int32)), .ref 14] (y_si (y_si m 15 ((m.1 12 4).toNatClampNeg) (m.1 16 ((nI (bk w)).toNatClampNeg))) 16 ((nI (bk w)).toNatClampNeg) (m.1 12 4)) _
          refine y_iast rfl rfl rfl (by rw [hk, nI_1]; exact x_in_nI (by omega) (by decide)) ?_
          refine y_st rfl rfl rfl rfl rfl (fun _ _ => rfl) ?_
          refine y_st rfl rfl rfl rfl rfl (fun _ _ => rfl) ?_
          refine y_gf rfl rfl rfl rfl rfl ?_
          refine y_st rfl rfl rfl rfl rfl (fun _ _ => rfl) ?_
          refine y_st rfl rfl rfl rfl rfl (fun _ _ => rfl) ?_
          refine y_pfi rfl rfl rfl rfl rfl (x_fit_i _) ?_
          show yP (xg xs) (d + 1) 33 158 [(5, .int ((-1) : Int32)), (4, .int (nI (bk w))), (3, .int s), (2, .int (nI (offs Ns Ns.length))), (0, .ref 12), (1, .int (nI n))] [] (y_si (y_si (y_si (y_si m 15 ((m.1 12 4).toNatClampNeg) (m.1 16 ((nI (bk w)).toNatClampNeg))) 16 ((nI (bk w)).toNatClampNeg) (m.1 12 4)) 14 (((m.1 12 4) + (1 : Int32)).toNatClampNeg) ((nI (offs Ns Ns.length)) + (nI n))) 12 4 ((m.1 12 4) + (1 : Int32))) _
          refine y_st rfl rfl rfl rfl rfl (fun _ _ => rfl) ?_
          refine y_gf rfl rfl rfl rfl rfl ?_
          refine y_st rfl rfl rfl rfl rfl (fun _ _ => rfl) ?_
          refine y_st rfl rfl rfl rfl rfl (fun _ _ => rfl) ?_
          show yP (xg xs) (d + 1) 33 164 [(5, .int ((-1) : Int32)), (4, .int (nI (bk w))), (3, .int s), (2, .int (nI (offs Ns Ns.length))), (0, .ref 12), (1, .int (nI n))] [.int (((m.1 12 4) + (1 : Int32)) - (1 : Int32))] (y_si (y_si (y_si (y_si m 15 ((m.1 12 4).toNatClampNeg) (m.1 16 ((nI (bk w)).toNatClampNeg))) 16 ((nI (bk w)).toNatClampNeg) (m.1 12 4)) 14 (((m.1 12 4) + (1 : Int32)).toNatClampNeg) ((nI (offs Ns Ns.length)) + (nI n))) 12 4 ((m.1 12 4) + (1 : Int32))) _
          exact y_iret rfl rfl rfl (by refine Or.inr ⟨hnot, ?_, ?_⟩; (simp only [hk, nI_1, nI_pred]); (simp only [hk, nI_1, nI_add, eB, eK, eK1]; rfl))
        · exact absurd (by rw [hk]; exact nI_lt (b := 4172) hl (by decide)) h101
      · exact absurd h65 (by decide)
    · rw [g2]
      have ej : (nI j).toNatClampNeg = j := nI_clamp (by omega)
      have hoj : offs Ns (j + 1) = offs Ns j + (Ns.getD j []).length := offs_s Ns (by omega)
      have hom := offs_mono Ns (i := j + 1) (j := Ns.length) (by omega) (Nat.le_refl _)
      refine y_st rfl rfl rfl rfl rfl (fun _ _ => rfl) ?_
      show yP (xg xs) (d + 1) 33 65 [(5, .int (nI j)), (4, .int (nI (bk w))), (3, .int s), (2, .int (nI (offs Ns Ns.length))), (0, .ref 12), (1, .int (nI n))] [.int (nI j)] m _
      refine y_zlt (t := 94) rfl rfl rfl (fun h65 => ?_) (fun h65 => ?_)
      · exact absurd h65 (nI_pos (by omega))
      · refine y_st rfl rfl rfl rfl rfl (fun _ _ => rfl) ?_
        refine y_st rfl rfl rfl rfl rfl (fun _ _ => rfl) ?_
        refine y_st rfl rfl rfl rfl rfl (fun _ _ => rfl) ?_
        refine y_st rfl rfl rfl rfl rfl (fun _ _ => rfl) ?_
        show yP (xg xs) (d + 1) 33 73 [(5, .int (nI j)), (4, .int (nI (bk w))), (3, .int s), (2, .int (nI (offs Ns Ns.length))), (0, .ref 12), (1, .int (nI n))] [.int (nI n), .int (nI (offs Ns Ns.length)), .int (nI j), .ref 12] m _
        refine y_call rfl rfl rfl rfl rfl (Nat.le_of_ble_eq_true rfl) (Nat.le_of_ble_eq_true rfl) rfl (by decide) (c34 xs d m j (offs Ns Ns.length) n (offs Ns j) (Ns.getD j []).length (by omega) (h3 j (by omega)) (by rw [← hoj]; exact h3 (j + 1) (by omega)) (by omega) hn) (fun v1 m1 q1 => ?_)
        obtain ⟨b1, rfl, w1, e1⟩ := q1; rw [e1]; clear e1
        show yP (xg xs) (d + 1) 33 76 [(5, .int (nI j)), (4, .int (nI (bk w))), (3, .int s), (2, .int (nI (offs Ns Ns.length))), (0, .ref 12), (1, .int (nI n))] [.int b1] m _
        refine y_zeq (t := 82) rfl rfl rfl (fun h76 => ?_) (fun h76 => ?_)
        · have hne : Ns.getD j [] ≠ w := fun z => by rcases w1 with ⟨y, -⟩ | ⟨-, y⟩; (rw [h76] at y; exact absurd y (by decide)); (exact y (by rw [h5 j (by omega), hw]; exact z))
          refine y_st rfl rfl rfl rfl rfl (fun _ _ => rfl) ?_
          refine y_gf rfl rfl rfl rfl rfl ?_
          refine y_st rfl rfl rfl rfl rfl (fun _ _ => rfl) ?_
          show yP (xg xs) (d + 1) 33 88 [(5, .int (nI j)), (4, .int (nI (bk w))), (3, .int s), (2, .int (nI (offs Ns Ns.length))), (0, .ref 12), (1, .int (nI n))] [.int (nI j), .ref 15] m _
          refine y_iald rfl rfl rfl (x_in_nI (by omega) (by decide)) ?_
          refine y_st rfl rfl rfl rfl rfl (fun _ _ => rfl) ?_
          refine y_st rfl rfl rfl rfl rfl (fun _ _ => rfl) ?_
          show yP (xg xs) (d + 1) 33 63 [(5, .int (m.1 15 ((nI j).toNatClampNeg))), (4, .int (nI (bk w))), (3, .int s), (2, .int (nI (offs Ns Ns.length))), (0, .ref 12), (1, .int (nI n))] [] m _
          refine y_head (l2 := [(5, .int (m.1 15 ((nI j).toNatClampNeg))), (4, .int (nI (bk w))), (3, .int s), (2, .int (nI (offs Ns Ns.length))), (0, .ref 12), (1, .int (nI n))]) [0, 1, 2, 3, 4, 5] [5, 4, 3, 2, 0, 1] 6 rfl (by decide) rfl rfl (by decide) ?_
          rw [ej, h6 j (by omega), g3]; exact ih j g1 (by omega) (fun k k1 k2 => by rcases Nat.lt_or_ge k i with q | q; (rcases Nat.lt_or_ge j k with q2 | q2; (exact fun z => g4 k q2 q (by rw [z])); (rw [show k = j by omega]; exact hne)); exact hh k q k2)
        · have heq : Ns.getD j [] = w := by rcases w1 with ⟨-, y⟩ | ⟨y, -⟩; (rw [h5 j (by omega), hw] at y; exact y); exact absurd y h76
          refine y_st rfl rfl rfl rfl rfl (fun _ _ => rfl) ?_
          show yP (xg xs) (d + 1) 33 81 [(5, .int (nI j)), (4, .int (nI (bk w))), (3, .int s), (2, .int (nI (offs Ns Ns.length))), (0, .ref 12), (1, .int (nI n))] [.int (nI j)] m _
          exact y_iret rfl rfl rfl (Or.inl ⟨j, by omega, heq, rfl, rfl⟩)
set_option maxRecDepth 20000 in
/-- Names.settle behind its sum -/
theorem c33T (xs : List Int32) (d : Nat) (m : yM) (Ns : List (List Int32)) (w : List Int32) (n : Nat) (h : NI m Ns) (hl : Ns.length < 4172) (hn : offs Ns Ns.length + n ≤ 8704) (hw : nmAt m (offs Ns Ns.length) n = w) (s : Int32) (hs : s = hsh w) : yP (xg xs) (d + 1) 33 42 [(4, .int (nI n)), (3, .int s), (2, .int (nI (offs Ns Ns.length))), (0, .ref 12), (1, .int (nI n))] [] m (fun r m' => ((∃ j, j < Ns.length ∧ Ns.getD j [] = w ∧ r = some (.int (nI j)) ∧ m' = m) ∨ (w ∉ Ns ∧ r = some (.int (nI Ns.length)) ∧ m' = newNm m Ns.length (bk w) (offs Ns Ns.length + n)))) := by
  have hN := h
  obtain ⟨hk, h2, h3, h4, h5, h6, h7, h8⟩ := h
  have hb := bk_lt w
  have eB : (nI (bk w)).toNatClampNeg = bk w := nI_clamp (by omega)
  have eK : (nI Ns.length).toNatClampNeg = Ns.length := nI_clamp (by omega)
  have eK1 : (nI (Ns.length + 1)).toNatClampNeg = Ns.length + 1 := nI_clamp (by omega)
  refine y_st rfl rfl rfl rfl rfl (fun _ _ => rfl) ?_
  refine y_st rfl rfl rfl rfl rfl (fun _ _ => rfl) ?_
  refine y_st rfl rfl rfl rfl rfl (fun _ _ => rfl) ?_
  refine y_st rfl rfl rfl rfl rfl (fun _ _ => rfl) ?_
  refine y_st rfl rfl rfl rfl rfl (fun _ _ => rfl) ?_
  refine y_st rfl rfl rfl rfl rfl (fun _ _ => rfl) ?_
  refine y_st rfl rfl rfl rfl rfl (fun _ _ => rfl) ?_
  refine y_st rfl rfl rfl rfl rfl (fun _ _ => rfl) ?_
  refine y_st rfl rfl rfl rfl rfl (fun _ _ => rfl) ?_
  refine y_gf rfl rfl rfl rfl rfl ?_
  refine y_st rfl rfl rfl rfl rfl (fun _ _ => rfl) ?_
  show yP (xg xs) (d + 1) 33 60 [(4, .int ((s ^^^ ((s.toUInt32 >>> ((10 : Int32).toUInt32 &&& Int32.toUInt32 31)).toInt32)) &&& (1023 : Int32))), (3, .int s), (2, .int (nI (offs Ns Ns.length))), (0, .ref 12), (1, .int (nI n))] [.int ((s ^^^ ((s.toUInt32 >>> ((10 : Int32).toUInt32 &&& Int32.toUInt32 31)).toInt32)) &&& (1023 : Int32)), .ref 16] m _
  refine y_iald rfl rfl rfl (by show x_in (bkI s) 1024 = true; rw [hs, bkI_eq]; exact x_in_nI hb (by decide)) ?_
  refine y_st rfl rfl rfl rfl rfl (fun _ _ => rfl) ?_
  show yP (xg xs) (d + 1) 33 63 [(5, .int (m.1 16 (((s ^^^ ((s.toUInt32 >>> ((10 : Int32).toUInt32 &&& Int32.toUInt32 31)).toInt32)) &&& (1023 : Int32)).toNatClampNeg))), (4, .int ((s ^^^ ((s.toUInt32 >>> ((10 : Int32).toUInt32 &&& Int32.toUInt32 31)).toInt32)) &&& (1023 : Int32))), (3, .int s), (2, .int (nI (offs Ns Ns.length))), (0, .ref 12), (1, .int (nI n))] [] m _
  refine y_head (l2 := [(5, .int (m.1 16 (((s ^^^ ((s.toUInt32 >>> ((10 : Int32).toUInt32 &&& Int32.toUInt32 31)).toInt32)) &&& (1023 : Int32)).toNatClampNeg))), (4, .int ((s ^^^ ((s.toUInt32 >>> ((10 : Int32).toUInt32 &&& Int32.toUInt32 31)).toInt32)) &&& (1023 : Int32))), (3, .int s), (2, .int (nI (offs Ns Ns.length))), (0, .ref 12), (1, .int (nI n))]) [0, 1, 2, 3, 4, 5] [5, 4, 3, 2, 0, 1] 6 rfl (by decide) rfl rfl (by decide) ?_
  rw [show ((s ^^^ ((s.toUInt32 >>> ((10 : Int32).toUInt32 &&& Int32.toUInt32 31)).toInt32)) &&& (1023 : Int32)) = nI (bk w) from by (show bkI s = _; rw [hs]; exact bkI_eq w), eB, h7 _ hb]; exact c33S xs d m Ns w n hN hl hn hw s Ns.length (Nat.le_refl _) (fun j j1 j2 => absurd j2 (Nat.not_lt.mpr j1))
set_option maxRecDepth 20000 in
/-- Names.settle, its sum -/
theorem c33H (xs : List Int32) (d : Nat) (m : yM) (Ns : List (List Int32)) (w : List Int32) (n : Nat) (h : NI m Ns) (hl : Ns.length < 4172) (hn : offs Ns Ns.length + n ≤ 8704) (hw : nmAt m (offs Ns Ns.length) n = w) : ∀ (q : Nat) (i : Nat), i + q = n → yP (xg xs) (d + 1) 33 15 [(4, .int (nI i)), (3, .int ((nmAt m (offs Ns Ns.length) i).foldl hstep (nI n))), (2, .int (nI (offs Ns Ns.length))), (0, .ref 12), (1, .int (nI n))] [] m (fun r m' => ((∃ j, j < Ns.length ∧ Ns.getD j [] = w ∧ r = some (.int (nI j)) ∧ m' = m) ∨ (w ∉ Ns ∧ r = some (.int (nI Ns.length)) ∧ m' = newNm m Ns.length (bk w) (offs Ns Ns.length + n)))) := by
  intro q
  induction q with
  | zero =>
    intro i hi
    have hi2 : i = n := by omega
    refine y_st rfl rfl rfl rfl rfl (fun _ _ => rfl) ?_
    refine y_st rfl rfl rfl rfl rfl (fun _ _ => rfl) ?_
    show yP (xg xs) (d + 1) 33 18 [(4, .int (nI i)), (3, .int ((nmAt m (offs Ns Ns.length) i).foldl hstep (nI n))), (2, .int (nI (offs Ns Ns.length))), (0, .ref 12), (1, .int (nI n))] [.int (nI n), .int (nI i)] m _
    refine y_ige (t := 42) rfl rfl rfl (fun h18 => ?_) (fun h18 => ?_)
    · show yP (xg xs) (d + 1) 33 42 [(4, .int (nI i)), (3, .int ((nmAt m (offs Ns Ns.length) i).foldl hstep (nI n))), (2, .int (nI (offs Ns Ns.length))), (0, .ref 12), (1, .int (nI n))] [] m _
      refine y_head (l2 := [(4, .int (nI i)), (3, .int ((nmAt m (offs Ns Ns.length) i).foldl hstep (nI n))), (2, .int (nI (offs Ns Ns.length))), (0, .ref 12), (1, .int (nI n))]) [0, 1, 2, 3, 4] [4, 3, 2, 0, 1] 5 rfl (by decide) rfl rfl (by decide) ?_
      rw [hi2]; exact c33T xs d m Ns w n h hl hn hw _ (by unfold hsh; rw [← hw, nmAt_len])
    · exact absurd (by rw [hi2]; exact Int32.le_refl _) h18
  | succ q ih =>
    intro i hi
    have hi2 : i < n := by omega
    have EA : (nI (offs Ns Ns.length) + nI i).toNatClampNeg = offs Ns Ns.length + i := by rw [nI_add]; exact nI_clamp (by omega)
    refine y_st rfl rfl rfl rfl rfl (fun _ _ => rfl) ?_
    refine y_st rfl rfl rfl rfl rfl (fun _ _ => rfl) ?_
    show yP (xg xs) (d + 1) 33 18 [(4, .int (nI i)), (3, .int ((nmAt m (offs Ns Ns.length) i).foldl hstep (nI n))), (2, .int (nI (offs Ns Ns.length))), (0, .ref 12), (1, .int (nI n))] [.int (nI n), .int (nI i)] m _
    refine y_ige (t := 42) rfl rfl rfl (fun h18 => ?_) (fun h18 => ?_)
    · exact absurd h18 (nI_ge hi2 (by omega))
    · refine y_st rfl rfl rfl rfl rfl (fun _ _ => rfl) ?_
      refine y_st rfl rfl rfl rfl rfl (fun _ _ => rfl) ?_
      refine y_st rfl rfl rfl rfl rfl (fun _ _ => rfl) ?_
      refine y_st rfl rfl rfl rfl rfl (fun _ _ => rfl) ?_
      refine y_gf rfl rfl rfl rfl rfl ?_
      refine y_st rfl rfl rfl rfl rfl (fun _ _ => rfl) ?_
      refine y_st rfl rfl rfl rfl rfl (fun _ _ => rfl) ?_
      refine y_st rfl rfl rfl rfl rfl (fun _ _ => rfl) ?_
      show yP (xg xs) (d + 1) 33 33 [(4, .int (nI i)), (3, .int ((nmAt m (offs Ns Ns.length) i).foldl hstep (nI n))), (2, .int (nI (offs Ns Ns.length))), (0, .ref 12), (1, .int (nI n))] [.int ((nI (offs Ns Ns.length)) + (nI i)), .ref 13, .int (((nmAt m (offs Ns Ns.length) i).foldl hstep (nI n)) * (31 : Int32))] m _
      refine y_bald rfl rfl rfl (by decide) (by rw [nI_add]; exact x_in_nI (by omega) (by decide)) ?_
      refine y_st rfl rfl rfl rfl rfl (fun _ _ => rfl) ?_
      refine y_st rfl rfl rfl rfl rfl (fun _ _ => rfl) ?_
      refine y_st rfl rfl rfl rfl rfl (fun _ _ => rfl) ?_
      refine y_st rfl rfl rfl rfl rfl (fun _ _ => rfl) ?_
      show yP (xg xs) (d + 1) 33 15 [(4, .int ((nI i) + (1 : Int32))), (3, .int ((((nmAt m (offs Ns Ns.length) i).foldl hstep (nI n)) * (31 : Int32)) + (m.1 13 (((nI (offs Ns Ns.length)) + (nI i)).toNatClampNeg)))), (2, .int (nI (offs Ns Ns.length))), (0, .ref 12), (1, .int (nI n))] [] m _
      refine y_head (l2 := [(4, .int ((nI i) + (1 : Int32))), (3, .int ((((nmAt m (offs Ns Ns.length) i).foldl hstep (nI n)) * (31 : Int32)) + (m.1 13 (((nI (offs Ns Ns.length)) + (nI i)).toNatClampNeg)))), (2, .int (nI (offs Ns Ns.length))), (0, .ref 12), (1, .int (nI n))]) [0, 1, 2, 3, 4] [4, 3, 2, 0, 1] 5 rfl (by decide) rfl rfl (by decide) ?_
      rw [EA, nI_1]; have z := ih (i + 1) (by omega); rw [nmAt_s, List.foldl_append] at z; exact z
set_option maxRecDepth 20000 in
/-- Names.settle -/
theorem c33 (xs : List Int32) (d : Nat) (m : yM) (Ns : List (List Int32)) (w : List Int32) (n : Nat) (h : NI m Ns) (hl : Ns.length < 4172) (hn : offs Ns Ns.length + n ≤ 8704) (hw : nmAt m (offs Ns Ns.length) n = w) : yC (xg xs) (d + 1) 33 [.ref 12, .int (nI n)] m (fun r m' => ((∃ j, j < Ns.length ∧ Ns.getD j [] = w ∧ r = some (.int (nI j)) ∧ m' = m) ∨ (w ∉ Ns ∧ r = some (.int (nI Ns.length)) ∧ m' = newNm m Ns.length (bk w) (offs Ns Ns.length + n)))) := by
  have hN := h
  obtain ⟨hk, h2, h3, h4, h5, h6, h7, h8⟩ := h
  have hb := bk_lt w
  have eB : (nI (bk w)).toNatClampNeg = bk w := nI_clamp (by omega)
  have eK : (nI Ns.length).toNatClampNeg = Ns.length := nI_clamp (by omega)
  have eK1 : (nI (Ns.length + 1)).toNatClampNeg = Ns.length + 1 := nI_clamp (by omega)
  refine y_st rfl rfl rfl rfl rfl (fun _ _ => rfl) ?_
  refine y_gf rfl rfl rfl rfl rfl ?_
  refine y_st rfl rfl rfl rfl rfl (fun _ _ => rfl) ?_
  refine y_gf rfl rfl rfl rfl rfl ?_
  show yP (xg xs) (d + 1) 33 8 [(0, .ref 12), (1, .int (nI n))] [.int (m.1 12 4), .ref 14] m _
  refine y_iald rfl rfl rfl (by rw [hk]; exact x_in_nI (by omega) (by decide)) ?_
  refine y_st rfl rfl rfl rfl rfl (fun _ _ => rfl) ?_
  refine y_st rfl rfl rfl rfl rfl (fun _ _ => rfl) ?_
  refine y_st rfl rfl rfl rfl rfl (fun _ _ => rfl) ?_
  refine y_st rfl rfl rfl rfl rfl (fun _ _ => rfl) ?_
  refine y_st rfl rfl rfl rfl rfl (fun _ _ => rfl) ?_
  show yP (xg xs) (d + 1) 33 15 [(4, .int (0 : Int32)), (3, .int (nI n)), (2, .int (m.1 14 ((m.1 12 4).toNatClampNeg))), (0, .ref 12), (1, .int (nI n))] [] m _
  refine y_head (l2 := [(4, .int (0 : Int32)), (3, .int (nI n)), (2, .int (m.1 14 ((m.1 12 4).toNatClampNeg))), (0, .ref 12), (1, .int (nI n))]) [0, 1, 2, 3, 4] [4, 3, 2, 0, 1] 5 rfl (by decide) rfl rfl (by decide) ?_
  rw [show (m.1 14 ((m.1 12 4).toNatClampNeg)) = nI (offs Ns Ns.length) from by (rw [hk, eK, h3 _ (Nat.le_refl _)])]; exact c33H xs d m Ns w n hN hl hn hw n 0 (by omega)
theorem c33n (xs : List Int32) (d : Nat) (m : yM) (Ns : List (List Int32)) (w : List Int32) (n : Nat) (h : NI m Ns) (hl : Ns.length < 4172) (hn : offs Ns Ns.length + n ≤ 8704) (hw : nmAt m (offs Ns Ns.length) n = w) (hnew : w ∉ Ns) : yC (xg xs) (d + 1) 33 [.ref 12, .int (nI n)] m (fun r m' => r = some (.int (nI Ns.length)) ∧ m' = newNm m Ns.length (bk w) (offs Ns Ns.length + n)) := by
  refine yC.mono (Nat.le_refl _) ?_ (c33 xs d m Ns w n h hl hn hw)
  rintro r m1 (⟨j, j1, j2, -⟩ | ⟨-, q⟩)
  · exact absurd (by rw [← j2]; simp [j1]) hnew
  · exact q
/-! FORGET: the names that are known beforehand -/
def fstep (s : List (List Int32) × List Int32) (c : Int32) : List (List Int32) × List Int32 := if c = 32 then (s.1 ++ [s.2], []) else (s.1, s.2 ++ [c])
def fkn (i : Nat) : List (List Int32) × List Int32 := (xsb_0.take i).foldl fstep ([], [])
def KN : List (List Int32) := (xsb_0.foldl fstep ([], [])).1
theorem KN_all : fkn 405 = (KN, []) := by
  have h : xsb_0.take 405 = xsb_0 := List.take_of_length_le (by rw [xl_0]; exact Nat.le_refl _)
  refine Prod.ext ?_ ?_
  · unfold fkn KN; rw [h]
  · unfold fkn; rw [h]; decide +kernel
theorem KN_len : KN.length = 75 := by decide +kernel
theorem KN_nd : KN.Nodup := by decide +kernel
theorem fkn_s {i : Nat} (h : i < 405) : fkn (i + 1) = fstep (fkn i) (xsb_0.getD i 0) := by
  unfold fkn
  have hl : i < xsb_0.length := by rw [xl_0]; exact h
  rw [List.take_add_one, List.foldl_append]
  have e : xsb_0[i]? = some (xsb_0.getD i 0) := by simp [hl]
  rw [e]
  rfl
theorem fstep_pre (l : List Int32) : ∀ s : List (List Int32) × List Int32, s.1 <+: (l.foldl fstep s).1 := by
  induction l with
  | nil => intro s; exact List.prefix_refl _
  | cons c l ih =>
    intro s
    refine List.IsPrefix.trans ?_ (ih (fstep s c))
    unfold fstep
    split
    · exact List.prefix_append _ _
    · exact List.prefix_refl _
theorem fkn_pre (i : Nat) : (fkn i).1 <+: KN := by
  unfold KN
  conv => rhs; rw [← List.take_append_drop i xsb_0]
  rw [List.foldl_append]
  exact fstep_pre _ _
theorem fkn_tot (l : List Int32) : ∀ s : List (List Int32) × List Int32, offs (l.foldl fstep s).1 (l.foldl fstep s).1.length + (l.foldl fstep s).2.length ≤ offs s.1 s.1.length + s.2.length + l.length ∧ (l.foldl fstep s).1.length ≤ s.1.length + l.length := by
  induction l with
  | nil => intro s; simp
  | cons c l ih =>
    intro s
    have h := ih (fstep s c)
    have h2 : offs (fstep s c).1 (fstep s c).1.length + (fstep s c).2.length ≤ offs s.1 s.1.length + s.2.length + 1 ∧ (fstep s c).1.length ≤ s.1.length + 1 := by
      unfold fstep
      split
      · simp only [List.length_append, List.length_cons, List.length_nil]
        rw [offs_a1]
        omega
      · simp only [List.length_append, List.length_cons, List.length_nil]
        omega
    simp only [List.foldl_cons, List.length_cons]
    omega
theorem fkn_b {i : Nat} (_h : i ≤ 405) : offs (fkn i).1 (fkn i).1.length + (fkn i).2.length ≤ i ∧ (fkn i).1.length ≤ i := by
  have h1 := fkn_tot (xsb_0.take i) ([], [])
  have h2 : (xsb_0.take i).length ≤ i := by rw [List.length_take]; omega
  unfold fkn
  simp only [List.length_nil, offs_0] at h1
  omega
theorem fkn_new {i : Nat} (h : i < 405) (hc : xsb_0.getD i 0 = 32) : (fkn i).2 ∉ (fkn i).1 := by
  have h1 := fkn_pre (i + 1)
  rw [fkn_s h] at h1
  unfold fstep at h1
  rw [if_pos hc] at h1
  have h2 := List.Nodup.sublist h1.sublist KN_nd
  rw [List.nodup_append] at h2
  intro hm
  exact h2.2.2 _ hm _ (by simp) rfl
/-- the table and the letters behind it, when i letters have been read -/
def Fk (m m2 : yM) (i f : Nat) : Prop := f + (fkn i).2.length = i ∧ NI m2 (fkn i).1 ∧ nmAt m2 (offs (fkn i).1 (fkn i).1.length) (fkn i).2.length = (fkn i).2 ∧ Kn m m2
theorem Fk.sp {m m2 : yM} {i f : Nat} (hi : i < 405) (hc : xsb_0.getD i 0 = 32) (h : Fk m m2 i f) : Fk m (newNm m2 (fkn i).1.length (bk (fkn i).2) (offs (fkn i).1 (fkn i).1.length + (fkn i).2.length)) (i + 1) (i + 1) := by
  obtain ⟨h1, h2, h3, h4⟩ := h
  have hb := fkn_b (i := i) (by omega)
  have e : fkn (i + 1) = ((fkn i).1 ++ [(fkn i).2], []) := by rw [fkn_s hi]; unfold fstep; rw [if_pos hc]
  refine ⟨by rw [e]; rfl, ?_, by rw [e]; rfl, h4.tr (newNm_Kn _ _ _ _)⟩
  rw [e]
  exact newNm_NI h2 (by omega) (by omega) h3 (fkn_new hi hc)
theorem NI.let {m : yM} {Ns : List (List Int32)} (h : NI m Ns) (i : Nat) (v : Int32) (hi : offs Ns Ns.length ≤ i) : NI (y_si m 13 i v) Ns := by
  obtain ⟨h1, h2, h3, h4, h5, h6, h7, h8⟩ := h
  have o : ∀ a, a ≠ 13 → (y_si m 13 i v).1 a = m.1 a := fun a ha => y_si_cell m i v ha
  refine ⟨by rw [o 12 (by decide)]; exact h1, h2, fun j hj => by rw [o 14 (by decide)]; exact h3 j hj, h4, fun j hj => ?_, fun j hj => by rw [o 15 (by decide)]; exact h6 j hj, fun b hb => by rw [o 16 (by decide)]; exact h7 b hb, h8⟩
  refine Eq.trans (nmAt_eq.mpr (fun e he => ?_)) (h5 j hj)
  have q1 := offs_s Ns hj
  have q2 := offs_mono Ns (i := j + 1) (j := Ns.length) (by omega) (Nat.le_refl _)
  rw [y_si_at, if_neg (by omega)]
theorem Fk.lt {m m2 : yM} {i f : Nat} (hi : i < 405) (hc : ¬ xsb_0.getD i 0 = 32) (h : Fk m m2 i f) : Fk m (y_si m2 13 (offs (fkn i).1 (fkn i).1.length + (fkn i).2.length) (xsb_0.getD i 0)) (i + 1) f := by
  obtain ⟨h1, h2, h3, h4⟩ := h
  have e : fkn (i + 1) = ((fkn i).1, (fkn i).2 ++ [xsb_0.getD i 0]) := by rw [fkn_s hi]; unfold fstep; rw [if_neg hc]
  refine ⟨by rw [e]; simp only [List.length_append, List.length_cons, List.length_nil]; omega, ?_, ?_, h4.tr (Kn.si (by omega))⟩
  · rw [e]
    exact h2.let _ _ (by omega)
  · rw [e]
    simp only [List.length_append, List.length_cons, List.length_nil]
    rw [nmAt_s]
    congr 1
    · refine Eq.trans (nmAt_eq.mpr (fun e he => ?_)) h3
      rw [y_si_at, if_neg (by omega)]
    · rw [y_si_at, if_pos ⟨rfl, rfl⟩]
set_option maxRecDepth 20000 in
/-- Names.forget, its loop -/
theorem c20L (xs : List Int32) (d : Nat) (m : yM) : ∀ (q : Nat) (i f : Nat) (mm : yM), i + q = 405 → Fk m mm i f → yP (xg xs) (d + 4) 20 17 [(2, .int (nI i)), (1, .int (nI f)), (0, .ref 12)] [] mm (fun r m' => (r = none ∧ NI m' KN ∧ Kn m m')) := by
  intro q
  induction q with
  | zero =>
    intro i f mm hi hF
    have hi2 : i = 405 := by omega
    refine y_st rfl rfl rfl rfl rfl (fun _ _ => rfl) ?_
    refine y_st rfl rfl rfl rfl rfl (fun _ _ => rfl) ?_
    show yP (xg xs) (d + 4) 20 20 [(2, .int (nI i)), (1, .int (nI f)), (0, .ref 12)] [.retAddr 20, .int (nI i)] mm _
    refine y_call rfl rfl rfl rfl rfl (Nat.le_of_ble_eq_true rfl) (Nat.le_of_ble_eq_true rfl) rfl (by decide) (c22_0 xs (d + 2) mm) (fun v1 m1 q1 => ?_)
    obtain ⟨rfl, e1⟩ := q1; rw [e1]; clear e1
    show yP (xg xs) (d + 4) 20 23 [(2, .int (nI i)), (1, .int (nI f)), (0, .ref 12)] [.int (405 : Int32), .int (nI i)] mm _
    refine y_ige (t := 83) rfl rfl rfl (fun h23 => ?_) (fun h23 => ?_)
    · show yP (xg xs) (d + 4) 20 83 [(2, .int (nI i)), (1, .int (nI f)), (0, .ref 12)] [] mm _
      exact y_ret rfl rfl rfl rfl (by subst hi2; obtain ⟨-, g2, -, g4⟩ := hF; rw [KN_all] at g2; exact ⟨rfl, g2, g4⟩)
    · exact absurd (by rw [hi2]; exact Int32.le_refl _) h23
  | succ q ih =>
    intro i f mm hi hF
    have hi2 : i < 405 := by omega
    have hF2 := hF
    obtain ⟨hf, hN, hp, hK⟩ := hF2
    have hN2 := hN
    obtain ⟨hk, h2, h3, h4, -⟩ := hN2
    have hb := fkn_b (i := i) (by omega)
    have EE : mm.1 14 (mm.1 12 4).toNatClampNeg + nI i - nI f = nI (offs (fkn i).1 (fkn i).1.length + (fkn i).2.length) := by rw [hk, nI_clamp (by omega), h3 _ (Nat.le_refl _), nI_add, pk_sub (by omega)]; congr 1; omega
    have ES : nI i - nI f = nI ((fkn i).2.length) := by rw [pk_sub (by omega)]; congr 1; omega
    refine y_st rfl rfl rfl rfl rfl (fun _ _ => rfl) ?_
    refine y_st rfl rfl rfl rfl rfl (fun _ _ => rfl) ?_
    show yP (xg xs) (d + 4) 20 20 [(2, .int (nI i)), (1, .int (nI f)), (0, .ref 12)] [.retAddr 20, .int (nI i)] mm _
    refine y_call rfl rfl rfl rfl rfl (Nat.le_of_ble_eq_true rfl) (Nat.le_of_ble_eq_true rfl) rfl (by decide) (c22_0 xs (d + 2) mm) (fun v1 m1 q1 => ?_)
    obtain ⟨rfl, e1⟩ := q1; rw [e1]; clear e1
    show yP (xg xs) (d + 4) 20 23 [(2, .int (nI i)), (1, .int (nI f)), (0, .ref 12)] [.int (405 : Int32), .int (nI i)] mm _
    refine y_ige (t := 83) rfl rfl rfl (fun h23 => ?_) (fun h23 => ?_)
    · exact absurd h23 (nI_ge (b := 405) hi2 (by decide))
    · refine y_st rfl rfl rfl rfl rfl (fun _ _ => rfl) ?_
      refine y_st rfl rfl rfl rfl rfl (fun _ _ => rfl) ?_
      show yP (xg xs) (d + 4) 20 29 [(2, .int (nI i)), (1, .int (nI f)), (0, .ref 12)] [.int (nI i), .retAddr 20] mm _
      refine y_call rfl rfl rfl rfl rfl (Nat.le_of_ble_eq_true rfl) (Nat.le_of_ble_eq_true rfl) rfl (by decide) (c24_0 xs d mm i hi2) (fun v2 m2 q2 => ?_)
      obtain ⟨rfl, e2⟩ := q2; rw [e2]; clear e2
      refine y_st rfl rfl rfl rfl rfl (fun _ _ => rfl) ?_
      show yP (xg xs) (d + 4) 20 34 [(2, .int (nI i)), (1, .int (nI f)), (0, .ref 12)] [.int (32 : Int32), .int (xsb_0.getD i 0)] mm _
      refine y_ine (t := 52) rfl rfl rfl (fun h34 => ?_) (fun h34 => ?_)
      · refine y_st rfl rfl rfl rfl rfl (fun _ _ => rfl) ?_
        refine y_gf rfl rfl rfl rfl rfl ?_
        refine y_st rfl rfl rfl rfl rfl (fun _ _ => rfl) ?_
        refine y_gf rfl rfl rfl rfl rfl ?_
        refine y_st rfl rfl rfl rfl rfl (fun _ _ => rfl) ?_
        refine y_gf rfl rfl rfl rfl rfl ?_
        show yP (xg xs) (d + 4) 20 64 [(2, .int (nI i)), (1, .int (nI f)), (0, .ref 12)] [.int (mm.1 12 4), .ref 14, .ref 13] mm _
        refine y_iald rfl rfl rfl (by rw [hk]; exact x_in_nI (by omega) (by decide)) ?_
        refine y_st rfl rfl rfl rfl rfl (fun _ _ => rfl) ?_
        refine y_st rfl rfl rfl rfl rfl (fun _ _ => rfl) ?_
        refine y_st rfl rfl rfl rfl rfl (fun _ _ => rfl) ?_
        refine y_st rfl rfl rfl rfl rfl (fun _ _ => rfl) ?_
        refine y_st rfl rfl rfl rfl rfl (fun _ _ => rfl) ?_
        refine y_st rfl rfl rfl rfl rfl (fun _ _ => rfl) ?_
        show yP (xg xs) (d + 4) 20 72 [(2, .int (nI i)), (1, .int (nI f)), (0, .ref 12)] [.int (nI i), .retAddr 20, .int (((mm.1 14 ((mm.1 12 4).toNatClampNeg)) + (nI i)) - (nI f)), .ref 13] mm _
        refine y_call rfl rfl rfl rfl rfl (Nat.le_of_ble_eq_true rfl) (Nat.le_of_ble_eq_true rfl) rfl (by decide) (c24_0 xs d mm i hi2) (fun v3 m3 q3 => ?_)
        obtain ⟨rfl, e3⟩ := q3; rw [e3]; clear e3
        refine y_st rfl rfl rfl rfl rfl (fun _ _ => rfl) ?_
        show yP (xg xs) (d + 4) 20 76 [(2, .int (nI i)), (1, .int (nI f)), (0, .ref 12)] [.int ((xsb_0.getD i 0).toInt8.toInt32), .int (((mm.1 14 ((mm.1 12 4).toNatClampNeg)) + (nI i)) - (nI f)), .ref 13] mm _
        refine y_bast rfl rfl rfl (by rw [EE]; exact x_in_nI (by omega) (by decide)) ?_
        refine y_st rfl rfl rfl rfl rfl (fun _ _ => rfl) ?_
        refine y_st rfl rfl rfl rfl rfl (fun _ _ => rfl) ?_
        show yP (xg xs) (d + 4) 20 17 [(2, .int ((nI i) + (1 : Int32))), (1, .int (nI f)), (0, .ref 12)] [] (y_si mm 13 ((((mm.1 14 ((mm.1 12 4).toNatClampNeg)) + (nI i)) - (nI f)).toNatClampNeg) (vp_nar .byte ((xsb_0.getD i 0).toInt8.toInt32))) _
        refine y_head (l2 := [(2, .int ((nI i) + (1 : Int32))), (1, .int (nI f)), (0, .ref 12)]) [0, 1, 2] [2, 1, 0] 3 rfl (by decide) rfl rfl (by decide) ?_
        first | (rw [nI_1]; exact ih (i + 1) (i + 1) _ (by omega) (Fk.sp hi2 (h34) hF)) | (rw [EE, nI_clamp (by omega), nI_1, pk_vb, (ch_0 i hi2).2]; exact ih (i + 1) f _ (by omega) (Fk.lt hi2 h34 hF))
      · refine y_st rfl rfl rfl rfl rfl (fun _ _ => rfl) ?_
        refine y_st rfl rfl rfl rfl rfl (fun _ _ => rfl) ?_
        refine y_st rfl rfl rfl rfl rfl (fun _ _ => rfl) ?_
        refine y_st rfl rfl rfl rfl rfl (fun _ _ => rfl) ?_
        show yP (xg xs) (d + 4) 20 41 [(2, .int (nI i)), (1, .int (nI f)), (0, .ref 12)] [.int ((nI i) - (nI f)), .ref 12] mm _
        rw [ES]
        refine y_call rfl rfl rfl rfl rfl (Nat.le_of_ble_eq_true rfl) (Nat.le_of_ble_eq_true rfl) rfl (by decide) (c33n xs (d + 2) mm (fkn i).1 (fkn i).2 (fkn i).2.length hN (by omega) (by omega) hp (fkn_new hi2 (h34))) (fun v4 m4 q4 => ?_)
        obtain ⟨rfl, e4⟩ := q4; rw [e4]; clear e4
        refine y_st rfl rfl rfl rfl rfl (fun _ _ => rfl) ?_
        refine y_st rfl rfl rfl rfl rfl (fun _ _ => rfl) ?_
        refine y_st rfl rfl rfl rfl rfl (fun _ _ => rfl) ?_
        refine y_st rfl rfl rfl rfl rfl (fun _ _ => rfl) ?_
        refine y_st rfl rfl rfl rfl rfl (fun _ _ => rfl) ?_
        refine y_st rfl rfl rfl rfl rfl (fun _ _ => rfl) ?_
        refine y_st rfl rfl rfl rfl rfl (fun _ _ => rfl) ?_
        refine y_st rfl rfl rfl rfl rfl (fun _ _ => rfl) ?_
        show yP (xg xs) (d + 4) 20 17 [(2, .int ((nI i) + (1 : Int32))), (1, .int ((nI i) + (1 : Int32))), (0, .ref 12)] [] (newNm mm (fkn i).1.length (bk (fkn i).2) (offs (fkn i).1 (fkn i).1.length + (fkn i).2.length)) _
        refine y_head (l2 := [(2, .int ((nI i) + (1 : Int32))), (1, .int ((nI i) + (1 : Int32))), (0, .ref 12)]) [0, 1, 2] [2, 1, 0] 3 rfl (by decide) rfl rfl (by decide) ?_
        first | (rw [nI_1]; exact ih (i + 1) (i + 1) _ (by omega) (Fk.sp hi2 (h34) hF)) | (rw [EE, nI_clamp (by omega), nI_1, pk_vb, (ch_0 i hi2).2]; exact ih (i + 1) f _ (by omega) (Fk.lt hi2 h34 hF))
theorem Fk.beg (m : yM) (hst : m.1 14 0 = 0) : Fk m (y_si (y_fill m 16 1024 (-1)) 12 4 0) 0 0 := by
  refine ⟨rfl, ⟨by rw [y_si_at, if_pos ⟨rfl, rfl⟩]; rfl, Nat.zero_le _, fun i hi => ?_, Nat.zero_le _, fun i hi => absurd hi (Nat.not_lt_zero _), fun i hi => absurd hi (Nat.not_lt_zero _), fun b hb => ?_, List.nodup_nil⟩, rfl, ?_, rfl⟩
  · rw [Nat.le_zero.mp hi, y_si_at, if_neg (by decide), y_fill_o _ _ _ _ _ (by decide), hst]
    rfl
  · rw [y_si_at, if_neg (by omega), y_fill_in _ _ _ _ _ hb]
    rfl
  · intro a ha
    rw [y_si_cell _ _ _ (by omega), y_fill_o _ _ _ _ _ (by omega)]
set_option maxRecDepth 20000 in
/-- Names.forget -/
theorem c20 (xs : List Int32) (d : Nat) (m : yM) (hst : m.1 14 0 = 0) : yC (xg xs) (d + 4) 20 [.ref 12] m (fun r m' => r = none ∧ NI m' KN ∧ Kn m m') := by
  refine y_st rfl rfl rfl rfl rfl (fun _ _ => rfl) ?_
  refine y_gf rfl rfl rfl rfl rfl ?_
  refine y_st rfl rfl rfl rfl rfl (fun _ _ => rfl) ?_
  show yP (xg xs) (d + 4) 20 5 [(0, .ref 12)] [.int ((-1) : Int32), .ref 16] m _
  refine y_call rfl rfl rfl rfl rfl (Nat.le_of_ble_eq_true rfl) (Nat.le_of_ble_eq_true rfl) rfl (by decide) (yC.mono (Nat.zero_le _) (fun _ _ z => z) (c21_16 xs 0 m (-1))) (fun v1 m1 q1 => ?_)
  obtain ⟨rfl, e1⟩ := q1; rw [e1]; clear e1
  refine y_st rfl rfl rfl rfl rfl (fun _ _ => rfl) ?_
  refine y_st rfl rfl rfl rfl rfl (fun _ _ => rfl) ?_
  refine y_pfi rfl rfl rfl rfl rfl (x_fit_i _) ?_
  show yP (xg xs) (d + 4) 20 13 [(0, .ref 12)] [] (y_si (y_fill m 16 1024 (-1)) 12 4 (0 : Int32)) _
  refine y_st rfl rfl rfl rfl rfl (fun _ _ => rfl) ?_
  refine y_st rfl rfl rfl rfl rfl (fun _ _ => rfl) ?_
  refine y_st rfl rfl rfl rfl rfl (fun _ _ => rfl) ?_
  refine y_st rfl rfl rfl rfl rfl (fun _ _ => rfl) ?_
  show yP (xg xs) (d + 4) 20 17 [(2, .int (0 : Int32)), (1, .int (0 : Int32)), (0, .ref 12)] [] (y_si (y_fill m 16 1024 (-1)) 12 4 (0 : Int32)) _
  refine y_head (l2 := [(2, .int (0 : Int32)), (1, .int (0 : Int32)), (0, .ref 12)]) [0, 1, 2] [2, 1, 0] 3 rfl (by decide) rfl rfl (by decide) ?_
  exact c20L xs d m 405 0 0 _ (by omega) (Fk.beg m hst)
