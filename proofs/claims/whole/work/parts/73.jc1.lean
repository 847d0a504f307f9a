/-! THE REFERENCE'S RULES: names that are given, blocks before -/
theorem ixw_mem {w : List Int32} : ∀ {ws : List (List Int32)} {t : Nat}, w ∈ ws → t + ws.length < 1000 → ¬ ixw w ws t = -1
  | [], t, h, _ => by simp at h
  | v :: ws, t, h, ht => by
    have es : ixw w (v :: ws) t = if v = w then nI t else ixw w ws (t + 1) := rfl
    rw [List.length_cons] at ht
    rw [es]
    by_cases e : v = w
    · rw [if_pos e]; exact nI_m1 (by omega)
    · rw [if_neg e]
      rcases List.mem_cons.mp h with y | y
      · exact absurd y.symm e
      · exact ixw_mem y (by omega)
def stN (x lo hi : Int32) : Int32 := if ¬ x < lo ∧ ¬ hi ≤ x then x - lo else -1
theorem ixw_kn {J : JV} (hN : JN J) {j a c : Nat} (hj : j < J.1.length) (hac : a + c ≤ 75) : ixw (J.1.getD j []) ((KN.drop a).take c) 0 = stN (nI j) (nI a) (nI (a + c)) := by
  have h1 := hN.1
  have h2 := hN.2.1
  have h3 := hN.2.2.1
  have kl := KN41.1
  have nl : 75 ≤ J.1.length := by have := h1.length_le; omega
  have ln : ((KN.drop a).take c).length = c := by rw [List.length_take, List.length_drop, kl]; omega
  have gt : ∀ i, i < c → ((KN.drop a).take c).getD i [] = KN.getD (a + i) [] := by
    intro i hi
    simp [List.getD_eq_getElem?_getD, List.getElem?_take, List.getElem?_drop, hi]
  unfold stN
  rcases ixw_c (J.1.getD j []) ((KN.drop a).take c) 0 with y | ⟨i, i1, i2, i3⟩
  · rw [y, if_neg]
    rintro ⟨q1, q2⟩
    have a1 : a ≤ j := by
      rcases Nat.lt_or_ge j a with z | z
      · exact absurd (nI_lt z (by omega)) q1
      · exact z
    have a2 : j < a + c := by
      rcases Nat.lt_or_ge j (a + c) with z | z
      · exact z
      · exact absurd (nI_le z (by omega)) q2
    refine ixw_mem (t := 0) ?_ (by rw [ln]; omega) y
    have := gt (j - a) (by omega)
    rw [show a + (j - a) = j by omega, ← getD_pre h1 (show j < 75 by omega)] at this
    rw [← this]
    have q : j - a < ((KN.drop a).take c).length := by rw [ln]; omega
    rw [List.getD_eq_getElem?_getD, List.getElem?_eq_getElem q]
    exact List.getElem_mem q
  · rw [ln] at i1
    rw [gt i i1, ← getD_pre h1 (show a + i < 75 by omega)] at i3
    have e := nodup_getD h2 (by omega) hj i3
    subst e
    rw [i2, if_pos ⟨fun q => absurd ((nI_ltI (by omega) (by omega)).mp q) (by omega), fun q => absurd ((nI_leI (by omega) (by omega)).mp q) (by omega)⟩, nI_sub (by omega), Nat.zero_add, Nat.add_sub_cancel_left]
/-- the reference's names are few -/
def JO (J : JV) : Prop := JN J ∧ offs J.2.1 J.2.1.length ≤ 8192
theorem c325b (xs : List Int32) (d : Nat) {J : JV} (hO : JO J) {m : yM} (hT : JT J m) {x y : Int32} (hx : NM J x y) : yC (xg xs) (d + 4) 325 [.ref 58, .retAddr 25, .int y] m (fun r m' => r = some (.int (stN x 41 50)) ∧ m' = m) := by
  obtain ⟨j, k, j0, j1, k1, rfl, rfl, e, nm⟩ := hx
  have := c325_5 xs d hT.1 hO.2 hO.1.2.2.2.2 k1 (by rw [← e]; exact nm.no 32 (by decide) (by decide))
  have q := ixw_kn hO.1 (a := 41) (c := 9) j1 (by omega)
  rw [← e] at this
  exact yC.mono (Nat.le_refl _) (fun r m' z => ⟨z.1.trans (congrArg (fun u => some (Value.int u)) q), z.2⟩) this
theorem c325f (xs : List Int32) (d : Nat) {J : JV} (hO : JO J) {m : yM} (hT : JT J m) {x y : Int32} (hx : NM J x y) : yC (xg xs) (d + 4) 325 [.ref 58, .retAddr 26, .int y] m (fun r m' => r = some (.int (stN x 50 60)) ∧ m' = m) := by
  obtain ⟨j, k, j0, j1, k1, rfl, rfl, e, nm⟩ := hx
  have := c325_6 xs d hT.1 hO.2 hO.1.2.2.2.2 k1 (by rw [← e]; exact nm.no 32 (by decide) (by decide))
  have q := ixw_kn hO.1 (a := 50) (c := 10) j1 (by omega)
  rw [← e] at this
  exact yC.mono (Nat.le_refl _) (fun r m' z => ⟨z.1.trans (congrArg (fun u => some (Value.int u)) q), z.2⟩) this
theorem stN_m {J : JV} (hN : JN J) {x y : Int32} (hx : NM J x y) {a c : Nat} (ha : a + c < 100) : (stN x (nI a) (nI (a + c)) = -1 ↔ ¬ (¬ x < nI a ∧ ¬ nI (a + c) ≤ x)) ∧ (¬ stN x (nI a) (nI (a + c)) = -1 → ∃ s, s < c ∧ stN x (nI a) (nI (a + c)) = nI s ∧ x = nI (a + s)) := by
  obtain ⟨j, k, j0, j1, k1, rfl, rfl, e, nm⟩ := hx
  have h3 := hN.2.2.1
  unfold stN
  by_cases q : ¬ nI j < nI a ∧ ¬ nI (a + c) ≤ nI j
  · rw [if_pos q]
    have a1 : a ≤ j := by
      rcases Nat.lt_or_ge j a with z | z
      · exact absurd (nI_lt z (by omega)) q.1
      · exact z
    have a2 : j < a + c := by
      rcases Nat.lt_or_ge j (a + c) with z | z
      · exact z
      · exact absurd (nI_le z (by omega)) q.2
    rw [nI_sub a1]
    exact ⟨⟨fun z => absurd z (nI_m1 (by omega)), fun z => absurd q z⟩, fun _ => ⟨j - a, by omega, rfl, by congr 1; omega⟩⟩
  · rw [if_neg q]
    exact ⟨⟨fun _ => q, fun _ => rfl⟩, fun z => absurd rfl z⟩
theorem isSt_i {J : JV} (hN : JN J) {x y : Int32} (hx : NM J x y) : isSt x ↔ (¬ stN x 41 50 = -1 ∨ ¬ stN x 50 60 = -1) := by
  have a := (stN_m hN hx (a := 41) (c := 9) (by omega)).1
  have b := (stN_m hN hx (a := 50) (c := 10) (by omega)).1
  have a : stN x 41 50 = -1 ↔ ¬ (¬ x < 41 ∧ ¬ 50 ≤ x) := a
  have b : stN x 50 60 = -1 ↔ ¬ (¬ x < 50 ∧ ¬ 60 ≤ x) := b
  rw [a, b]
  unfold isSt
  have l1 : ∀ z : Int32, x < z ↔ x.toInt < z.toInt := fun z => Int32.lt_iff_toInt_lt
  have l2 : ∀ z : Int32, z ≤ x ↔ z.toInt ≤ x.toInt := fun z => Int32.le_iff_toInt_le
  rw [l1, l1, l2, l2]
  have e1 : (41 : Int32).toInt = 41 := by decide
  have e2 : (50 : Int32).toInt = 50 := by decide
  have e3 : (60 : Int32).toInt = 60 := by decide
  rw [e1, e2, e3]
  constructor
  · intro q; omega
  · intro q; omega
theorem c324 (xs : List Int32) (d : Nat) {J : JV} (hO : JO J) {m : yM} (hT : JT J m) {x y : Int32} (hx : NM J x y) : yC (xg xs) (d + 5) 324 [.ref 58, .int y] m (fun r m' => r = some (.int (if isSt x then 1 else 0)) ∧ m' = m) := by
  have q := isSt_i hO.1 hx
  refine w324_0 xs (d + 4) _ m _ (y_ci (c325b xs d hO hT hx) (by omega) ⟨fun u => ⟨?_, rfl⟩, fun u => y_ci (c325f xs d hO hT hx) (by omega) ⟨fun w => ⟨?_, rfl⟩, fun w => ⟨?_, rfl⟩⟩⟩)
  · rw [if_pos (q.mpr (Or.inl u))]
  · rw [if_neg (fun z => (q.mp z).elim (fun z => z u) (fun z => z w))]
  · rw [if_pos (q.mpr (Or.inr w))]
theorem c346r (xs : List Int32) (d : Nat) {J : JV} (hO : JO J) {m : yM} (hT : JT J m) {x y : Int32} (hx : NM J x y) {s : Nat} (hs : s < 9) {o sec : Int32} (ho : (o = 0 ∧ sec = 1) ∨ (o = 1 ∧ sec = 2)) : ∃ p, prR p (spR (nI s) x sec 32 0) ∧ yC (xg xs) (d + 5) 346 [.ref 58, .int (nI s), .int y, .int o] m (fun r m' => r = some (.int p) ∧ m' = m) := by
  obtain ⟨j, k, j0, j1, k1, rfl, rfl, e, nm⟩ := hx
  refine ⟨_, ?_, c346 xs d hT.1 hO.2 hO.1.2.2.2.2 k1 (by rw [← e]; exact nm) hs o⟩
  rw [← e]
  have h1 := hO.1.1
  have h3 := hO.1.2.2.1
  rcases Nat.lt_or_ge j 75 with lt | ge
  · rw [getD_pre h1 lt]
    have a := List.all_eq_true.mp (List.all_eq_true.mp pin_kn s (List.mem_range.mpr hs)) j (List.mem_range.mpr lt)
    have a := Bool.and_eq_true _ _ ▸ a
    rcases ho with ⟨rfl, rfl⟩ | ⟨rfl, rfl⟩
    · exact prB_R a.1
    · exact prB_R a.2
  · -- a name that is none of the known ones
    have nk : J.1.getD j [] ∉ KN := by
      intro hm
      obtain ⟨i, hi, ei⟩ := List.getElem_of_mem hm
      have kl := KN41.1
      have : KN.getD i [] = J.1.getD j [] := by rw [List.getD_eq_getElem?_getD, List.getElem?_eq_getElem hi, ei]; rfl
      rw [← getD_pre h1 (by omega)] at this
      have nl : 75 ≤ J.1.length := by have := h1.length_le; omega
      have := nodup_getD hO.1.2.1 (by omega) j1 this
      omega
    have no : ∀ (ws : List (List Int32)), (ws.all (fun v => bdW v || KN.contains v)) = true → ∀ t, ixw (J.1.getD j []) ws t = -1 := by
      intro ws hw t
      rcases ixw_c (J.1.getD j []) ws t with q | ⟨i, i1, i2, i3⟩
      · exact q
      · exfalso
        have mem : J.1.getD j [] ∈ ws := by
          rw [← i3, List.getD_eq_getElem?_getD, List.getElem?_eq_getElem i1]
          exact List.getElem_mem i1
        have := List.all_eq_true.mp hw _ mem
        rcases Bool.or_eq_true _ _ ▸ this with z | z
        · exact nm.bd z
        · exact nk (by simpa using z)
    have pm : ∀ l ws, (ws.all (fun v => bdW v || KN.contains v)) = true → pinV l ws (J.1.getD j []) o = -1 := by
      intro l ws hw
      unfold pinV
      rw [if_pos (no ws hw 0)]
    left
    refine ⟨?_, ?_⟩
    · unfold pnS
      repeat' split
      all_goals exact pm _ _ (by decide +kernel)
    · have key : ∀ k i, (List.range k).all (fun q => decide ((xar_4.getD (i + 5 * q + 2) 0).toNatClampNeg < 75)) = true → spR (nI s) (nI j) sec k i = -1 := by
        intro k
        induction k with
        | zero => intro i _; rfl
        | succ k ih =>
          intro i hh
          have es : spR (nI s) (nI j) sec (k + 1) i = if rowP (nI s) (nI j) sec i then 4 * xar_4.getD (i + 3) 0 + xar_4.getD (i + 4) 0 else spR (nI s) (nI j) sec k (i + 5) := rfl
          have h0 := of_decide_eq_true (List.all_eq_true.mp hh 0 (List.mem_range.mpr (by omega)))
          rw [es, if_neg, ih]
          · refine List.all_eq_true.mpr (fun q hq => ?_)
            have := List.all_eq_true.mp hh (q + 1) (List.mem_range.mpr (by have := List.mem_range.mp hq; omega))
            rw [show i + 5 + 5 * q + 2 = i + 5 * (q + 1) + 2 by omega]
            exact this
          · rintro ⟨-, -, q⟩
            rw [Nat.mul_zero, Nat.add_zero, q, nI_clamp (by omega)] at h0
            omega
      exact key 32 0 (by decide +kernel)
/-- block names differ -/
def dsN (σ : RS) : Prop := ∀ a b, a < σ.1.length → b < σ.1.length → (σ.1.getD a dBK).2.2.1 = (σ.1.getD b dBK).2.2.1 → a = b
theorem bix_v (B : List BK) (nm : Int32) : ∀ n v, v < n → (B.getD v dBK).2.2.1 = nm → ∃ z, bix B nm n = nI z ∧ v ≤ z ∧ z < n
  | 0, v, h, _ => by omega
  | n + 1, v, h, e => by
    rw [bix_s]
    by_cases q : (B.getD n dBK).2.2.1 = nm
    · rw [if_pos q]; exact ⟨n, rfl, by omega, by omega⟩
    · rw [if_neg q]
      have ne : v ≠ n := fun y => q (y ▸ e)
      obtain ⟨z, z1, z2, z3⟩ := bix_v B nm n v (by omega) e
      exact ⟨z, z1, z2, by omega⟩
theorem bfB_c (σ : RS) (k x : Int32) : ∀ q b, bfB σ k x q b = -1 ∧ (∀ a, b ≤ a → a < b + q → ¬ ((σ.1.getD a dBK).2.2.1 = x ∧ (σ.1.getD a dBK).1 = k)) ∨ ∃ a, b ≤ a ∧ a < b + q ∧ bfB σ k x q b = nI a ∧ (σ.1.getD a dBK).2.2.1 = x ∧ (σ.1.getD a dBK).1 = k
  | 0, b => Or.inl ⟨rfl, fun a h1 h2 => by omega⟩
  | q + 1, b => by
    have es : bfB σ k x (q + 1) b = if (σ.1.getD b dBK).2.2.1 = x ∧ (σ.1.getD b dBK).1 = k then nI b else bfB σ k x q (b + 1) := rfl
    rw [es]
    by_cases e : (σ.1.getD b dBK).2.2.1 = x ∧ (σ.1.getD b dBK).1 = k
    · rw [if_pos e]; exact Or.inr ⟨b, by omega, by omega, rfl, e.1, e.2⟩
    · rw [if_neg e]
      rcases bfB_c σ k x q (b + 1) with ⟨y1, y2⟩ | ⟨a, a1, a2, a3⟩
      · refine Or.inl ⟨y1, fun a h1 h2 => ?_⟩
        by_cases z : a = b
        · rw [z]; exact e
        · exact y2 a (by omega) (by omega)
      · exact Or.inr ⟨a, by omega, by omega, a3⟩
/-- a standard one or one before: both tell the same -/
theorem fBlk_r {J : JV} (hN : JN J) {σ : RS} (hd : dsN σ) (hB : σ.1.length ≤ 399) (h0 : 0 < σ.1.length) {x y : Int32} (hx : NM J x y) {a c : Nat} (ha : a + c < 100) (hc : c < 100) (k : Int32) : (fBlk σ k (nI a) (nI (a + c)) (nI c) x = -1 ∧ stN x (nI a) (nI (a + c)) = -1 ∧ bfB σ k x (σ.1.length - 1) 0 = -1) ∨ (∃ s, s < c ∧ fBlk σ k (nI a) (nI (a + c)) (nI c) x = nI s ∧ stN x (nI a) (nI (a + c)) = nI s) ∨ ∃ b, b + 1 < σ.1.length ∧ fBlk σ k (nI a) (nI (a + c)) (nI c) x = nI (c + b) ∧ stN x (nI a) (nI (a + c)) = -1 ∧ bfB σ k x (σ.1.length - 1) 0 = nI b ∧ (σ.1.getD b dBK).1 = k := by
  have sm := stN_m hN hx ha
  by_cases q : ¬ x < nI a ∧ ¬ nI (a + c) ≤ x
  · right; left
    have ne : ¬ stN x (nI a) (nI (a + c)) = -1 := fun z => sm.1.mp z q
    obtain ⟨s, s1, s2, s3⟩ := sm.2 ne
    refine ⟨s, s1, ?_, s2⟩
    unfold fBlk
    rw [if_pos q, ← s2]
    unfold stN
    rw [if_pos q]
  · have e1 := sm.1.mpr q
    unfold fBlk
    rw [if_neg q]
    rcases bfB_c σ k x (σ.1.length - 1) 0 with ⟨y1, y2⟩ | ⟨b, b1, b2, b3, b4, b5⟩
    · left
      refine ⟨?_, e1, y1⟩
      rcases bix_c σ.1 x σ.1.length with z | ⟨v, v1, v2, v3⟩
      · rw [if_pos z]
      · rw [v2, if_neg (nI_m1 (by omega)), nI_clamp (by omega)]
        by_cases lt : nI (σ.1.length - 1) ≤ nI v
        · rw [if_pos lt]
        · rw [if_neg lt]
          have vl : v < σ.1.length - 1 := by
            rcases Nat.lt_or_ge v (σ.1.length - 1) with z | z
            · exact z
            · exact absurd (nI_le z (by omega)) lt
          rw [if_neg (fun z => y2 v (by omega) (by omega) ⟨v3, z⟩)]
    · right; right
      refine ⟨b, by omega, ?_, e1, b3, b5⟩
      obtain ⟨z, z1, z2, z3⟩ := bix_v σ.1 x σ.1.length b (by omega) b4
      have zb : z = b := by
        rcases bix_c σ.1 x σ.1.length with w | ⟨v, v1, v2, v3⟩
        · rw [w] at z1; exact absurd z1.symm (nI_m1 (by omega))
        · rw [v2] at z1
          have := (nI_eq (a := v) (b := z) (by omega) (by omega)).mp z1
          subst this
          exact hd v b (by omega) (by omega) (v3.trans b4.symm)
      subst zb
      rw [z1, if_neg (nI_m1 (by omega)), nI_clamp (by omega), if_neg (fun w => absurd ((nI_leI (by omega) (by omega)).mp w) (by omega)), if_pos b5, nI_add]
