/-! THE RULES' INVARIANTS: types of expressions -/
theorem tile_at {F : List ND} {e : Nat} : ∀ (L : List Nat) (i : Nat), tile F L i e → (∀ c, L[0]? = some c → c = i) ∧ ∀ j c d : Nat, L[j]? = some c → L[j + 1]? = some d → d = c + szF F c
  | [], i, _ => ⟨fun c h => by (cases h), fun j c d h => by cases h⟩
  | a :: L, i, ht => by
    obtain ⟨rfl, ht⟩ := ht
    obtain ⟨h1, h2⟩ := tile_at L (a + szF F a) ht
    refine ⟨fun c h => (Option.some.inj h).symm, fun j c d hc hd => ?_⟩
    cases j with
    | zero =>
      have := Option.some.inj hc
      rw [← this]
      exact h1 d hd
    | succ j => exact h2 j c d hc hd
theorem TW.kdN {m0 : yM} {T : Nat} {F : List ND} {N n : Nat} (h : TW m0 T F N n) : kdN F n := by
  cases N with
  | zero => exact absurd h (fun z => z)
  | succ N => exact tile_at _ _ h.2.2.2.2.2.1
/-- the node below is known by its kind -/
theorem TW.kin {m0 : yM} {T : Nat} {F : List ND} {N n c : Nat} (h : TW m0 T F N n) (hc : c ∈ kids F n) : n < c ∧ c < n + szF F n ∧ c + szF F c ≤ n + szF F n ∧ c < F.length ∧ 0 < szF F c := by
  cases N with
  | zero => exact absurd h (fun z => z)
  | succ N =>
    have tm := tile.mem h.2.2.2.2.2.1 c hc
    have z := (h.2.2.2.2.2.2 c hc).at
    omega
theorem TW.k1 {m0 : yM} {T : Nat} {F : List ND} {N n a : Nat} (h : TW m0 T F N n) (e : (kids F n).map (kK F) = [a]) : kids F n = [n + 1] ∧ kK F (n + 1) = a ∧ n + 1 < F.length ∧ n + 1 + szF F (n + 1) = n + szF F n := by
  cases N with
  | zero => exact absurd h (fun z => z)
  | succ N =>
    have h0 := h
    obtain ⟨w1, w2, w3, w4, w5, w6, w7⟩ := h
    cases hq : kids F n with
    | nil => rw [hq] at e; cases e
    | cons c L =>
      rw [hq] at e w6
      obtain ⟨rfl, w6⟩ := w6
      obtain ⟨e1, e2⟩ := List.cons.inj e
      have : L = [] := by simpa using e2
      subst this
      have z := h0.kin (show n + 1 ∈ kids F n by rw [hq]; exact List.mem_cons_self)
      exact ⟨rfl, e1, z.2.2.2.1, w6⟩
theorem TW.k2 {m0 : yM} {T : Nat} {F : List ND} {N n a b : Nat} (h : TW m0 T F N n) (e : (kids F n).map (kK F) = [a, b]) : kids F n = [n + 1, n + 1 + szF F (n + 1)] ∧ kK F (n + 1) = a ∧ kK F (n + 1 + szF F (n + 1)) = b ∧ n + 1 + szF F (n + 1) < F.length ∧ 0 < szF F (n + 1) := by
  cases N with
  | zero => exact absurd h (fun z => z)
  | succ N =>
    have h0 := h
    obtain ⟨w1, w2, w3, w4, w5, w6, w7⟩ := h
    cases hq : kids F n with
    | nil => rw [hq] at e; cases e
    | cons c L =>
      rw [hq] at e w6
      obtain ⟨rfl, w6⟩ := w6
      obtain ⟨e1, e2⟩ := List.cons.inj e
      cases L with
      | nil => cases e2
      | cons d L =>
        obtain ⟨rfl, w6⟩ := w6
        obtain ⟨e3, e4⟩ := List.cons.inj e2
        have : L = [] := by simpa using e4
        subst this
        have z := h0.kin (show n + 1 ∈ kids F n by rw [hq]; exact List.mem_cons_self)
        have z2 := h0.kin (show n + 1 + szF F (n + 1) ∈ kids F n by rw [hq]; exact List.mem_cons_of_mem _ List.mem_cons_self)
        exact ⟨rfl, e1, e3, z2.2.2.2.1, z.2.2.2.2⟩
theorem TW.ok {m0 : yM} {T : Nat} {F : List ND} {N n : Nat} (h : TW m0 T F N n) : okN m0 T (kK F n) (vF F n) (vtF F n) ((kids F n).map (kK F)) := by
  cases N with
  | zero => exact absurd h (fun z => z)
  | succ N => exact h.2.2.2.2.1
theorem TW.mk {m0 : yM} {T : Nat} {F : List ND} {N n : Nat} (h : TW m0 T F N n) {p : Nat → Prop} (hp : ∀ x, x ∈ (kids F n).map (kK F) → p x) {c : Nat} (hc : c ∈ kids F n) : p (kK F c) := hp _ (List.mem_map_of_mem hc)
/-- no declaration is open -/
theorem PA.no5 {m0 : yM} {T : Nat} {F : List ND} {N : Nat} {A : List Nat} {n : Nat} (hp : PA m0 T F N A n) (h1 : ¬ (kK F n = 7 ∨ kK F n = 8 ∨ kK F n = 9 ∨ kK F n = 10 ∨ kK F n = 30 ∨ kK F n = 31)) (h6 : kK F n = 6 → ¬ kK F (fPar A) = 5) (h5 : ¬ kK F n = 5) (i : Nat) : qN F (A ++ [n]) i = 0 := by
  have c : ¬ (4 ≤ A.length ∧ kK F (A.getD 3 0) = 5) := by
    rintro ⟨z1, z2⟩
    obtain ⟨a, b⟩ := hp.ind A.length rfl z1 z2
    rcases a with a | a
    · exact h6 a (by rw [(b a).2]; exact z2)
    · exact h1 a
  refine qN_z (fun z => ?_)
  obtain ⟨z1, z2⟩ := z
  rw [List.length_append, List.length_singleton] at z1
  by_cases c4 : 4 ≤ A.length
  · rw [gD_ap A n (by omega)] at z2
    exact c ⟨c4, z2⟩
  · have c3 : A.length = 3 := by omega
    have g : (A ++ [n]).getD 3 0 = n := by
      rw [List.getD_eq_getElem?_getD, List.getElem?_append_right (by omega), c3]
      rfl
    rw [g] at z2
    exact h5 z2
/-- a variable that is found -/
theorem fVar_x {σ : RS} (hV : σ.2.1.length ≤ 4096) (h0 : 0 < σ.1.length) (hf : (curB σ).2.2.2.2 ≤ σ.2.1.length) {x : Int32} (h : ¬ fVar σ x = -1) : ∃ v, v < σ.2.1.length ∧ fVar σ x = nI v ∧ (curB σ).2.2.2.2 ≤ v := by
  unfold fVar at h ⊢
  by_cases c : lix σ.2.1 x σ.2.1.length < nI (curB σ).2.2.2.2
  · rw [if_pos c] at h; exact absurd rfl h
  · rw [if_neg c] at h ⊢
    rcases lix_c σ.2.1 x σ.2.1.length with y | ⟨v, v1, v2, v3⟩
    · exact absurd y h
    · rw [v2] at c
      refine ⟨v, v1, v2, ?_⟩
      rcases Nat.lt_or_ge v (curB σ).2.2.2.2 with z | z
      · exact absurd (nI_lt z (by omega)) c
      · exact z
theorem tyV_sV {σ : RS} {n v : Nat} (x : Int32) (h : ¬ (vD σ v).2.1 = n) : tyV (setV σ n x) v = tyV σ v := by
  unfold tyV
  show (if frm σ v = 9 then σ.2.2.2.2 (vD σ v).2.1 else upI σ.2.2.2.1 n x (vD σ v).2.1) = _
  rw [upI_o _ _ h]
theorem cmT_3 {x y : Int32} (hx : ty3 x) (hy : ty3 y) (h : ¬ cmT x y = -1) : ty3 (cmT x y) := by
  rcases hx with rfl | rfl | rfl <;> rcases hy with rfl | rfl | rfl <;> revert h <;> decide
theorem tyTwo_3 {o x : Int32} (hx : ty3 x) : ty3 (tyTwo o x) := by
  unfold tyTwo
  split
  · exact Or.inl rfl
  · exact hx
theorem i_50 {x : Int32} (h : ¬ x < 50 ∧ ¬ 60 ≤ x) : ∃ k, k < 10 ∧ x - 50 = nI k := by
  have a : ¬ x.toInt < 50 := fun y => h.1 (Int32.lt_iff_toInt_lt.mpr y)
  have b : ¬ 60 ≤ x.toInt := fun y => h.2 (Int32.le_iff_toInt_le.mpr y)
  have c : x = nI x.toInt.toNat := by
    apply Int32.toInt_inj.mp
    rw [nI_toInt (by omega)]
    omega
  refine ⟨x.toInt.toNat - 50, by omega, ?_⟩
  rw [c, show (50 : Int32) = nI 50 from rfl, nI_sub (by omega), ← c]
/-- a call is one of a standard function or of a FUNCTION before -/
theorem fBlk_1 {σ : RS} (hB : σ.1.length ≤ 399) {x : Int32} (h : ¬ fBlk σ 1 50 60 10 x = -1) : (∃ s, s < 10 ∧ fBlk σ 1 50 60 10 x = nI s) ∨ ∃ b, b + 1 < σ.1.length ∧ fBlk σ 1 50 60 10 x = nI (b + 10) ∧ (σ.1.getD b dBK).1 = 1 := by
  unfold fBlk at h ⊢
  by_cases c : ¬ x < 50 ∧ ¬ 60 ≤ x
  · rw [if_pos c]
    obtain ⟨k, k1, k3⟩ := i_50 c
    exact Or.inl ⟨k, k1, k3⟩
  · rw [if_neg c] at h ⊢
    by_cases c2 : bix σ.1 x σ.1.length = -1
    · rw [if_pos c2] at h; exact absurd rfl h
    rw [if_neg c2] at h ⊢
    by_cases c3 : nI (σ.1.length - 1) ≤ bix σ.1 x σ.1.length
    · rw [if_pos c3] at h; exact absurd rfl h
    rw [if_neg c3] at h ⊢
    by_cases c4 : (σ.1.getD (bix σ.1 x σ.1.length).toNatClampNeg dBK).1 = 1
    · rw [if_pos c4]
      rcases bix_c σ.1 x σ.1.length with y | ⟨b, b1, b2, b3⟩
      · exact absurd y c2
      · rw [b2] at c3 c4 ⊢
        rw [nI_clamp (by omega)] at c4
        have lt : b < σ.1.length - 1 := by
          rcases Nat.lt_or_ge b (σ.1.length - 1) with z | z
          · exact z
          · exact absurd (nI_le z (by omega)) c3
        refine Or.inr ⟨b, by omega, ?_, c4⟩
        rw [show b + 10 = 10 + b by omega]
        exact nI_add 10 b
    · rw [if_neg c4] at h; exact absurd rfl h
theorem x5_n : ∀ s, s < 10 → (([0, 7, 8, 9] : List Nat).contains s = true ∧ xar_5.getD s 0 = nI 1) ∨ (([1, 2, 5, 6] : List Nat).contains s = true ∧ xar_5.getD s 0 = nI 2) ∨ (([3, 4] : List Nat).contains s = true ∧ xar_5.getD s 0 = nI 3) := by decide +kernel
/-- the operands of a standard function -/
theorem kdS_of {F : List ND} {n s : Nat} (hk : kdN F n) (hl : (kids F n).length ≤ 16400) (hs : s < 10) (e : nI (kids F n).length = xar_5.getD s 0) : ∃ k2 k3, kdS F n s k2 k3 ∧ n + 1 ∈ kids F n ∧ k2 ∈ kids F n ∧ k3 ∈ kids F n := by
  have g0 : ∀ {j : Nat}, j < (kids F n).length → (kids F n)[j]? = some ((kids F n).getD j 0) := fun h => getD_some h
  rcases x5_n s hs with ⟨m1, x⟩ | ⟨m1, x⟩ | ⟨m1, x⟩
  · rw [x] at e
    have el : (kids F n).length = 1 := (nI_eq (by omega) (by omega)).mp e
    have k0 := g0 (j := 0) (by omega)
    rw [hk.1 _ k0] at k0
    have hK : kids F n = [n + 1] := by
      rcases hq : kids F n with _ | ⟨a, _ | ⟨b, L⟩⟩
      · rw [hq] at el; exact absurd el (by simp)
      · rw [hq] at k0; simp at k0; rw [k0]
      · rw [hq] at el; simp at el
    refine ⟨n + 1, n + 1, Or.inl ⟨m1, hK, rfl, rfl⟩, ?_, ?_, ?_⟩ <;> rw [hK] <;> exact List.mem_cons_self
  · rw [x] at e
    have el : (kids F n).length = 2 := (nI_eq (by omega) (by omega)).mp e
    have k0 := g0 (j := 0) (by omega)
    rw [hk.1 _ k0] at k0
    have k1 := g0 (j := 1) (by omega)
    rw [hk.2 0 _ _ k0 k1] at k1
    have hK : kids F n = [n + 1, kd2 F n] := by
      rcases hq : kids F n with _ | ⟨a, _ | ⟨b, _ | ⟨c, L⟩⟩⟩
      · rw [hq] at el; exact absurd el (by simp)
      · rw [hq] at el; exact absurd el (by simp)
      · rw [hq] at k0 k1; simp at k0 k1; rw [k0, k1]
      · rw [hq] at el; simp at el
    refine ⟨_, _, Or.inr (Or.inl ⟨m1, hK, rfl, rfl⟩), ?_, ?_, ?_⟩ <;> rw [hK] <;> simp
  · rw [x] at e
    have el : (kids F n).length = 3 := (nI_eq (by omega) (by omega)).mp e
    have k0 := g0 (j := 0) (by omega)
    rw [hk.1 _ k0] at k0
    have k1 := g0 (j := 1) (by omega)
    rw [hk.2 0 _ _ k0 k1] at k1
    have k2 := g0 (j := 2) (by omega)
    rw [hk.2 1 _ _ k1 k2] at k2
    have hK : kids F n = [n + 1, kd2 F n, kd3 F n] := by
      rcases hq : kids F n with _ | ⟨a, _ | ⟨b, _ | ⟨c, _ | ⟨c', L⟩⟩⟩⟩
      · rw [hq] at el; exact absurd el (by simp)
      · rw [hq] at el; exact absurd el (by simp)
      · rw [hq] at el; exact absurd el (by simp)
      · rw [hq] at k0 k1 k2; simp at k0 k1 k2; rw [k0, k1, k2]
      · rw [hq] at el; simp at el
    refine ⟨_, _, Or.inr (Or.inr ⟨m1, hK, rfl, rfl⟩), ?_, ?_, ?_⟩ <;> rw [hK] <;> simp
theorem rsT_3 : (List.range 10).all (fun s => ty3L.all (fun t => ty3L.all (fun u => ty3L.all (fun w => decide (rsT s t u w = -1 ∨ ty3 (rsT s t u w)))))) = true := by decide +kernel
theorem rsT_t {s : Nat} (hs : s < 10) {t u w : Int32} (h1 : ty3 t) (h2 : ty3 u) (h3 : ty3 w) (h : ¬ rsT s t u w = -1) : ty3 (rsT s t u w) := by
  have := rsT_3
  rw [List.all_eq_true] at this
  have := this s (List.mem_range.mpr hs)
  rw [List.all_eq_true] at this
  have := this _ (ty3_m h1)
  rw [List.all_eq_true] at this
  have := this _ (ty3_m h2)
  rw [List.all_eq_true] at this
  exact (decide_eq_true_iff.mp (this _ (ty3_m h3))).resolve_left h
def x4t : Bool := (List.range 32).all (fun r => decide (ty3 ((4 * xar_4.getD (5 * r + 3) 0 + xar_4.getD (5 * r + 4) 0) &&& 3)))
theorem x4t_t : x4t = true := by decide +kernel
/-- a port's type -/
theorem prt_3 {σ : RS} (hP : PV σ) (hD : allD σ) (hM : ∀ b, b < σ.1.length → endV σ b ≤ σ.2.1.length) (hB : σ.1.length ≤ 399) {v : Nat} (vo : vOk σ v) (hf : frm σ v = 10) {x w : Int32} (hw : w = 1 ∨ w = 2) (h : ¬ prt σ (σ.2.2.2.1 (vD σ v).2.1) x w = -1) : ty3 (prt σ (σ.2.2.2.1 (vD σ v).2.1) x w &&& 3) := by
  obtain ⟨k, ek, hk⟩ := (hP.1 v vo).2.2.2.2 hf
  rw [ek] at h ⊢
  unfold prt at h ⊢
  by_cases q : 9 ≤ nI k
  · rw [if_pos q] at h ⊢
    rcases hk with z | ⟨z1, z2, z3⟩
    · have := (nI_leI (a := 9) (by omega) (by omega)).mp q
      omega
    · rw [show nI k - 9 = nI (k - 9) from nI_sub (b := 9) z1, nI_clamp (by omega)] at h ⊢
      have el := hM (k - 9) z2
      rcases fsp (σ := σ) x w (endV σ (k - 9) - (σ.1.getD (k - 9) dBK).2.2.2.2) (σ.1.getD (k - 9) dBK).2.2.2.2 (fun a c y1 y2 y3 => hP.2.1 (k - 9) a c z2 y1 y2 (by omega)) with y | ⟨u, u1, u2, u3, u4, u5⟩
      · exact absurd y.2 h
      · rw [u5] at h ⊢
        by_cases s : (vD σ u).1 = w
        · rw [if_pos s]
          have uo := hD u (by omega)
          obtain ⟨p1, p2, p3, ⟨c, pc, pb⟩, p5⟩ := hP.1 u uo
          have f8 : frm σ u = 8 := p2 (fun y => by rw [y] at s; rcases hw with rfl | rfl <;> exact absurd s (by decide))
          obtain ⟨t, ht, et⟩ := ty3_n (p3 (Or.inl f8))
          rw [pc, et, nI_4, (shr2 pb ht).2.1, ← et]
          exact p3 (Or.inl f8)
        · rw [if_neg s] at h; exact absurd rfl h
  · rw [if_neg q] at h ⊢
    rcases spR_c (nI k) x w 32 0 with y | ⟨r, r1, r2, r3⟩
    · exact absurd y h
    · rw [r3, Nat.zero_add]
      have := x4t_t
      unfold x4t at this
      rw [List.all_eq_true] at this
      exact decide_eq_true_iff.mp (this r (List.mem_range.mpr r1))
