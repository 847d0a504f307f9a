/-! THE RULES' INVARIANTS: what types become -/
theorem tile_lf {m0 : yM} {T : Nat} {F : List ND} {N : Nat} {e : Nat} : ∀ (L : List Nat) (i : Nat), tile F L i e → (∀ c, c ∈ L → TW m0 T F N c ∧ kidK (kK F c) = []) → L = List.range' i L.length ∧ e = i + L.length
  | [], i, ht, _ => ⟨rfl, ht.symm⟩
  | c :: L, i, ht, hw => by
    obtain ⟨rfl, ht⟩ := ht
    have s1 := ((hw c List.mem_cons_self).1.leaf (hw c List.mem_cons_self).2).1
    rw [s1] at ht
    obtain ⟨a, b⟩ := tile_lf L (c + 1) ht (fun x hx => hw x (List.mem_cons_of_mem _ hx))
    rw [List.length_cons, List.range'_succ]
    exact ⟨by rw [← a], by omega⟩
/-- an array's type has two bounds and a type -/
theorem k9_s {m0 : yM} {T : Nat} {F : List ND} {N n : Nat} (h : TW m0 T F N n) (hk : kK F n = 9) : kids F n = [n + 1, n + 2, n + 3] ∧ cnK (kK F (n + 1)) ∧ cnK (kK F (n + 2)) ∧ kK F (n + 3) = 8 ∧ n + 3 < F.length ∧ szF F n = 4 := by
  cases N with
  | zero => exact absurd h (fun z => z)
  | succ N =>
    have h0 := h
    obtain ⟨w1, w2, w3, w4, w5, w6, w7⟩ := h
    rw [hk] at w5
    obtain ⟨-, a, b, ha, hb, eks⟩ := w5
    have lf : ∀ c, c ∈ kids F n → TW m0 T F N c ∧ kidK (kK F c) = [] := by
      intro c hc
      have := h0.kid hc
      rw [hk] at this
      refine ⟨w7 c hc, ?_⟩
      have z : ∀ x, x ∈ kidK 9 → kidK x = [] := by decide
      exact z _ this
    obtain ⟨t1, t2⟩ := tile_lf (kids F n) (n + 1) w6 lf
    have l3 : (kids F n).length = 3 := by
      have := congrArg List.length eks
      rw [List.length_map] at this
      exact this
    rw [l3] at t1 t2
    have t1 : kids F n = [n + 1, n + 2, n + 3] := t1
    rw [t1] at eks
    have e1 : kK F (n + 1) = a := (List.cons.inj eks).1
    have e2 : kK F (n + 2) = b := (List.cons.inj (List.cons.inj eks).2).1
    have e3 : kK F (n + 3) = 8 := (List.cons.inj (List.cons.inj (List.cons.inj eks).2).2).1
    exact ⟨t1, by rw [e1]; exact ha, by rw [e2]; exact hb, e3, by omega, by omega⟩
theorem lk_9 {F : List ND} {A : List Nat} {σ σ' : RS} {U : Nat → Bool} {n : Nat} (h : lk F A σ U n = .inl σ') (k9 : σ.2.2.1 n = 9) : σ' = setT (setV σ n (elT σ n).toInt32) n (σ.2.2.2.1 (n + 3)) ∧ ¬ inB σ 1 ∧ ¬ lg_cmp (elT σ n) 1 < 0 ∧ lg_cmp (elT σ n) 256 ≤ 0 := by
  unfold lk at h
  have k0 : ¬ σ.2.2.1 n = 0 := by rw [k9]; decide
  have k1 : ¬ bkN (σ.2.2.1 n) := by rw [k9]; decide
  have k4 : ¬ σ.2.2.1 n = 4 := by rw [k9]; decide
  have k5 : ¬ σ.2.2.1 n = 5 := by rw [k9]; decide
  have k6 : ¬ σ.2.2.1 n = 6 := by rw [k9]; decide
  have k7 : ¬ σ.2.2.1 n = 7 := by rw [k9]; decide
  rw [if_neg k0, if_neg k1, if_neg k4, if_neg k5, if_neg k6, if_neg k7, if_pos k9] at h
  unfold lkArr at h
  by_cases c : inB σ 1 ∨ σ.2.2.1 (n + 1) = 31 ∨ σ.2.2.1 (n + 2) = 31 ∨ lg_cmp (elT σ n) 1 < 0 ∨ ¬ lg_cmp (elT σ n) 256 ≤ 0
  · rw [if_pos c] at h; cases h
  rw [if_neg c] at h
  exact ⟨inl_e h, fun z => c (Or.inl z), fun z => c (Or.inr (Or.inr (Or.inr (Or.inl z)))), Decidable.byContradiction (fun z => c (Or.inr (Or.inr (Or.inr (Or.inr z)))))⟩
theorem lk_10 {F : List ND} {A : List Nat} {σ σ' : RS} {U : Nat → Bool} {n : Nat} (h : lk F A σ U n = .inl σ') (k9 : σ.2.2.1 n = 10) : σ' = setV σ n (fBlk σ 2 41 50 9 (σ.2.2.2.1 n)) ∧ ¬ fBlk σ 2 41 50 9 (σ.2.2.2.1 n) = -1 ∧ ¬ inB σ 1 := by
  unfold lk at h
  have k0 : ¬ σ.2.2.1 n = 0 := by rw [k9]; decide
  have k1 : ¬ bkN (σ.2.2.1 n) := by rw [k9]; decide
  have k4 : ¬ σ.2.2.1 n = 4 := by rw [k9]; decide
  have k5 : ¬ σ.2.2.1 n = 5 := by rw [k9]; decide
  have k6 : ¬ σ.2.2.1 n = 6 := by rw [k9]; decide
  have k7 : ¬ σ.2.2.1 n = 7 := by rw [k9]; decide
  have k9' : ¬ σ.2.2.1 n = 9 := by rw [k9]; decide
  rw [if_neg k0, if_neg k1, if_neg k4, if_neg k5, if_neg k6, if_neg k7, if_neg k9', if_pos k9] at h
  unfold lkBtyp at h
  by_cases c : fBlk σ 2 41 50 9 (σ.2.2.2.1 n) = -1 ∨ inB σ 1
  · rw [if_pos c] at h; cases h
  rw [if_neg c] at h
  exact ⟨inl_e h, fun z => c (Or.inl z), fun z => c (Or.inr z)⟩
theorem i_41 {x : Int32} (h : ¬ x < 41 ∧ ¬ 50 ≤ x) : ∃ k, k < 9 ∧ x = nI (41 + k) ∧ x - 41 = nI k := by
  have a : ¬ x.toInt < 41 := fun y => h.1 (Int32.lt_iff_toInt_lt.mpr y)
  have b : ¬ 50 ≤ x.toInt := fun y => h.2 (Int32.le_iff_toInt_le.mpr y)
  have c : x.toInt = 41 ∨ x.toInt = 42 ∨ x.toInt = 43 ∨ x.toInt = 44 ∨ x.toInt = 45 ∨ x.toInt = 46 ∨ x.toInt = 47 ∨ x.toInt = 48 ∨ x.toInt = 49 := by omega
  rcases c with c | c | c | c | c | c | c | c | c
  · have : x = 41 := Int32.toInt_inj.mp c
    subst this; exact ⟨0, by omega, rfl, rfl⟩
  · have : x = 42 := Int32.toInt_inj.mp c
    subst this; exact ⟨1, by omega, rfl, rfl⟩
  · have : x = 43 := Int32.toInt_inj.mp c
    subst this; exact ⟨2, by omega, rfl, rfl⟩
  · have : x = 44 := Int32.toInt_inj.mp c
    subst this; exact ⟨3, by omega, rfl, rfl⟩
  · have : x = 45 := Int32.toInt_inj.mp c
    subst this; exact ⟨4, by omega, rfl, rfl⟩
  · have : x = 46 := Int32.toInt_inj.mp c
    subst this; exact ⟨5, by omega, rfl, rfl⟩
  · have : x = 47 := Int32.toInt_inj.mp c
    subst this; exact ⟨6, by omega, rfl, rfl⟩
  · have : x = 48 := Int32.toInt_inj.mp c
    subst this; exact ⟨7, by omega, rfl, rfl⟩
  · have : x = 49 := Int32.toInt_inj.mp c
    subst this; exact ⟨8, by omega, rfl, rfl⟩
/-- a block's type is a standard block or a FUNCTION_BLOCK before -/
theorem fBlk_2 {σ : RS} (hB : σ.1.length ≤ 399) {x : Int32} (h : ¬ fBlk σ 2 41 50 9 x = -1) : ∃ k, fBlk σ 2 41 50 9 x = nI k ∧ (k < 9 ∨ (9 ≤ k ∧ k - 9 + 1 < σ.1.length ∧ (σ.1.getD (k - 9) dBK).1 = 2)) := by
  unfold fBlk at h ⊢
  by_cases c : ¬ x < 41 ∧ ¬ 50 ≤ x
  · rw [if_pos c]
    obtain ⟨k, k1, k2, k3⟩ := i_41 c
    exact ⟨k, k3, Or.inl k1⟩
  · rw [if_neg c] at h ⊢
    by_cases c2 : bix σ.1 x σ.1.length = -1
    · rw [if_pos c2] at h; exact absurd rfl h
    rw [if_neg c2] at h ⊢
    by_cases c3 : nI (σ.1.length - 1) ≤ bix σ.1 x σ.1.length
    · rw [if_pos c3] at h; exact absurd rfl h
    rw [if_neg c3] at h ⊢
    by_cases c4 : (σ.1.getD (bix σ.1 x σ.1.length).toNatClampNeg dBK).1 = 2
    · rw [if_pos c4]
      rcases bix_c σ.1 x σ.1.length with y | ⟨b, b1, b2, b3⟩
      · exact absurd y c2
      · rw [b2] at c3 c4 ⊢
        rw [nI_clamp (by omega)] at c4
        have lt : b < σ.1.length - 1 := by
          rcases Nat.lt_or_ge b (σ.1.length - 1) with z | z
          · exact z
          · exact absurd (nI_le z (by omega)) c3
        exact ⟨9 + b, nI_add 9 b, Or.inr ⟨by omega, by omega, by rw [show 9 + b - 9 = b by omega]; exact c4⟩⟩
    · rw [if_neg c4] at h; exact absurd rfl h
theorem BY.f {σ σ' : RS} (h : BY σ σ') (k lo hi up x : Int32) : fBlk σ' k lo hi up x = fBlk σ k lo hi up x := BX.f ⟨h.1, fun b => ⟨(h.2 b).1, (h.2 b).2.2.1, (h.2 b).2.2.2⟩⟩ k lo hi up x
/-- types looked at -/
def P6 (F : List ND) (A : List Nat) (i : Nat) (s : SU) : Prop := (∀ j, j < F.length → kK F j = 9 → j < i → j ∉ A → s.1.2.2.2.1 j = vF F (j + 2) - vF F (j + 1) + 1 ∧ s.1.2.2.2.2 j = vF F (j + 3) ∧ ∃ z, s.1.2.2.2.1 j = nI z ∧ 1 ≤ z ∧ z ≤ 256) ∧ (∀ j, j < F.length → kK F j = 10 → j < i → j ∉ A → (∃ k, s.1.2.2.2.1 j = nI k ∧ (k < 9 ∨ (9 ≤ k ∧ k - 9 < s.1.1.length ∧ (s.1.1.getD (k - 9) dBK).1 = 2))) ∧ ∀ p, p ∈ A → kK F p = 5 → p < j → s.1.2.2.2.1 j = fBlk s.1 2 41 50 9 (vF F j))
theorem mem_b {A : List Nat} {n j : Nat} (h1 : j < n + 1) (h2 : j ∉ A ++ [n]) : j < n ∧ j ∉ A := by
  have : ¬ j = n := fun z => h2 (List.mem_append_right _ (by rw [z]; exact List.mem_cons_self))
  exact ⟨by omega, fun z => h2 (List.mem_append_left _ z)⟩
theorem mem_l {A : List Nat} {n j : Nat} (h : j ∉ A) (ne : ¬ j = n) : j ∉ A ++ [n] := fun z => by
  rcases List.mem_append.mp z with y | y
  · exact h y
  · exact ne (List.mem_singleton.mp y)
theorem P6.b {m0 : yM} {T : Nat} {F : List ND} (h0 : kK F 0 = 0) {N : Nat} {A : List Nat} {n : Nat} {s : SU} {σ : RS} (hp : PA m0 T F N A n) (h1 : P1 F A n s) (h : P6 F A n s) (e : jb s n = .inl σ) : P6 F (A ++ [n]) (n + 1) (σ, s.2) := by
  have kn := (h1.1 n hp.lt.1 (Or.inl (Nat.le_refl _))).1
  obtain ⟨a, b⟩ := h
  unfold jb at e
  by_cases q : bkN (s.1.2.2.1 n)
  · rw [if_pos q] at e
    have kb : kK F n = 1 ∨ kK F n = 2 ∨ kK F n = 3 := by rw [kn] at q; exact (ch37e _ hp.1.k37).mp q
    have eA := hp.blk h0 kb
    unfold lkBeg at e
    split at e
    · cases e
    split at e
    · cases e
    · have e' := inl_e e
      obtain ⟨y1, y2, y3, y4, y5, y6, y7⟩ := beg_y s.1 n (s.1.2.2.1 n) (s.1.2.2.2.1 n)
      rw [← e'] at y1 y6 y7
      refine ⟨fun j j1 j2 j3 j4 => ?_, fun j j1 j2 j3 j4 => ?_⟩
      · obtain ⟨j3, j4⟩ := mem_b j3 j4
        show σ.2.2.2.1 j = _ ∧ σ.2.2.2.2 j = _ ∧ ∃ z, σ.2.2.2.1 j = nI z ∧ _
        rw [y6]
        exact a j j1 j2 j3 j4
      · obtain ⟨j3, j4⟩ := mem_b j3 j4
        obtain ⟨⟨k, k1, k2⟩, -⟩ := b j j1 j2 j3 j4
        refine ⟨⟨k, by show σ.2.2.2.1 j = _; rw [y6]; exact k1, k2.imp id (fun z => ⟨z.1, ?_, ?_⟩)⟩, fun p hpm kp => ?_⟩
        · show k - 9 < σ.1.length
          rw [y1]; omega
        · show (σ.1.getD (k - 9) dBK).1 = 2
          rw [y7 _ z.2.1]; exact z.2.2
        · rw [eA] at hpm
          rcases List.mem_append.mp hpm with y | y
          · rw [List.mem_singleton.mp y, h0] at kp; omega
          · rw [List.mem_singleton.mp y] at kp; omega
  · rw [if_neg q] at e
    rw [inl_e e]
    refine ⟨fun j j1 j2 j3 j4 => ?_, fun j j1 j2 j3 j4 => ?_⟩
    · obtain ⟨j3, j4⟩ := mem_b j3 j4
      exact a j j1 j2 j3 j4
    · obtain ⟨j3, j4⟩ := mem_b j3 j4
      obtain ⟨k1, k2⟩ := b j j1 j2 j3 j4
      refine ⟨k1, fun p hpm kp pj => ?_⟩
      rcases List.mem_append.mp hpm with y | y
      · exact k2 p y kp pj
      · rw [List.mem_singleton.mp y] at pj; omega
theorem P6.l {m0 : yM} {T : Nat} {F : List ND} (hK : K37 F) (hB : ∀ i, i ≤ F.length → cntF (bB F) i ≤ 390) {N : Nat} {A : List Nat} {n : Nat} {s : SU} {σ' : RS} (hp : PA m0 T F N A n) (h1 : P1 F (A ++ [n]) (n + szF F n) s) (h2 : P2 F (A ++ [n]) (n + szF F n) s) (h : P6 F (A ++ [n]) (n + szF F n) s) (e : lk F A s.1 s.2 n = .inl σ') : P6 F A (n + szF F n) (σ', nU s.1 s.2 n) := by
  have hn := hp.lt.1
  have k37 := hp.1.k37
  have at' := hp.1.at
  have nA : n ∈ A ++ [n] := List.mem_append_right _ List.mem_cons_self
  obtain ⟨kn, vn, tn⟩ := h1.1 n hn (Or.inr nA)
  have b4 : s.1.1.length ≤ 399 := by
    have := hB (n + szF F n) at'.1
    have := h2.1.1
    omega
  obtain ⟨e1, e2, e3, e4, e5⟩ := lk_ef e (fun z => by
    rw [kn] at z
    exact (h1.2.2.2.2 n nA ((ch37e _ k37).mp z)).2.1)
  have kj : ∀ j, j < F.length → (kK F j = 9 ∨ kK F j = 10) → s.1.2.2.1 j = nI (kK F j) := by
    intro j hj hk
    rcases h1.2.1 j hj with y | ⟨y, z⟩
    · exact y
    · omega
  have ty : ∀ j, j ≠ n → j < F.length → kK F j = 9 → σ'.2.2.2.2 j = s.1.2.2.2.2 j := by
    intro j ne hj hk
    rcases e4 j with y | ⟨y, -⟩ | ⟨-, -, -, y⟩
    · exact y
    · exact absurd y ne
    · rw [kj j hj (Or.inl hk), hk] at y
      exact absurd y (by decide)
  obtain ⟨a, b⟩ := h
  refine ⟨fun j j1 j2 j3 j4 => ?_, fun j j1 j2 j3 j4 => ?_⟩
  · show σ'.2.2.2.1 j = _ ∧ σ'.2.2.2.2 j = _ ∧ ∃ z, σ'.2.2.2.1 j = nI z ∧ _
    by_cases ne : j = n
    · subst ne
      obtain ⟨l1, l2, l3, l4⟩ := lk_9 e (by rw [kn, j2]; rfl)
      obtain ⟨m1, m2, m3, m4, m5, m6⟩ := k9_s hp.1 j2
      have v1 : s.1.2.2.2.1 (j + 1) = vF F (j + 1) := h1.2.2.1 _ (by omega) (by rcases m2 with z | z <;> rw [z] <;> decide)
      have v2 : s.1.2.2.2.1 (j + 2) = vF F (j + 2) := h1.2.2.1 _ (by omega) (by rcases m3 with z | z <;> rw [z] <;> decide)
      have v3 : s.1.2.2.2.1 (j + 3) = vF F (j + 3) := h1.2.2.1 _ (by omega) (by rw [m4]; decide)
      have eV : σ'.2.2.2.1 j = vF F (j + 2) - vF F (j + 1) + 1 := by
        rw [l1]
        show upI s.1.2.2.2.1 j (elT s.1 j).toInt32 j = _
        rw [upI_n]
        unfold elT
        rw [v1, v2]
        exact elT_32 _ _
      have eT : σ'.2.2.2.2 j = vF F (j + 3) := by
        rw [l1]
        show upI _ j _ j = _
        rw [upI_n]
        exact v3
      refine ⟨eV, eT, ?_⟩
      have g1 : ¬ (elT s.1 j).toInt < 1 := fun z => l3 (by rw [lg_cmp_lt, Int64.lt_iff_toInt_lt]; exact z)
      have g2 : (elT s.1 j).toInt ≤ 256 := by
        rw [lg_cmp_le, Int64.le_iff_toInt_le] at l4
        exact l4
      refine ⟨(elT s.1 j).toInt.toNat, ?_, by omega, by omega⟩
      rw [eV, ← elT_32]
      have eq : (vF F (j + 2)).toInt64 - (vF F (j + 1)).toInt64 + 1 = elT s.1 j := by unfold elT; rw [v1, v2]
      rw [eq]
      apply Int32.toInt_inj.mp
      rw [Int64.toInt_toInt32, nI_toInt (by omega)]
      rw [Int.bmod_eq_of_le (by omega) (by omega)]
      omega
    · rw [(e1 j ne).2, ty j ne j1 j2]
      exact a j j1 j2 j3 (mem_l j4 ne)
  · show (∃ k, σ'.2.2.2.1 j = nI k ∧ (k < 9 ∨ (9 ≤ k ∧ k - 9 < σ'.1.length ∧ (σ'.1.getD (k - 9) dBK).1 = 2))) ∧ ∀ p, p ∈ A → kK F p = 5 → p < j → σ'.2.2.2.1 j = fBlk σ' 2 41 50 9 (vF F j)
    rw [e5.1, e5.f]
    by_cases ne : j = n
    · subst ne
      obtain ⟨l1, l2, l3⟩ := lk_10 e (by rw [kn, j2]; rfl)
      have eV : σ'.2.2.2.1 j = fBlk s.1 2 41 50 9 (vF F j) := by
        rw [l1, ← vn]
        show upI _ j _ j = _
        rw [upI_n]
      rw [vn] at l2
      rw [eV]
      obtain ⟨k, f1, f2⟩ := fBlk_2 b4 l2
      refine ⟨⟨k, f1, f2.imp id (fun z => ⟨z.1, by omega, ?_⟩)⟩, fun _ _ _ _ => rfl⟩
      rw [(e5.2 _).1]
      exact z.2.2
    · rw [(e1 j ne).2]
      obtain ⟨⟨k, k1, k2⟩, k3⟩ := b j j1 j2 j3 (mem_l j4 ne)
      refine ⟨⟨k, k1, k2.imp id (fun z => ⟨z.1, z.2.1, ?_⟩)⟩, fun p hpm => k3 p (List.mem_append_left _ hpm)⟩
      rw [(e5.2 _).1]
      exact z.2.2
