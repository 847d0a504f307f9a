/-! RULES over flat memory: yP: from here the method comes to its end with Q -/
def yP (G : xG) (d y pc : Nat) (lv : xL) (st : List Value) (m : yM) (Q : Option Value → yM → Prop) : Prop :=
  ∃ (n : Nat) (r : Option Value) (m' : yM), (∀ ck cs, x_exec G xms xcd n d y pc lv st (y_w m) ck cs = some (r, y_w m', ck, cs)) ∧ Q r m'
/-- a method's contract at its operands -/
def yC (G : xG) (d j : Nat) (as : List Value) (m : yM) (Q : Option Value → yM → Prop) : Prop := yP G d j 0 (lv_args 0 as) [] m Q
theorem yP.mono {G : xG} {d d' y pc : Nat} {lv : xL} {st : List Value} {m : yM} {Q Q' : Option Value → yM → Prop} (hd : d ≤ d') (hQ : ∀ r m', Q r m' → Q' r m') (h : yP G d y pc lv st m Q) : yP G d' y pc lv st m Q' := by
  obtain ⟨n, r, m', hx, hq⟩ := h
  exact ⟨n, r, m', fun ck cs => x_fuel _ _ _ _ _ _ _ _ _ _ _ _ (Nat.le_refl _) hd (hx ck cs), hQ _ _ hq⟩
theorem yC.mono {G : xG} {d d' j : Nat} {as : List Value} {m : yM} {Q Q' : Option Value → yM → Prop} (hd : d ≤ d') (hQ : ∀ r m', Q r m' → Q' r m') (h : yC G d j as m Q) : yC G d' j as m Q' := yP.mono hd hQ h
section YR
variable {G : xG} {d y pc len : Nat} {lv : xL} {st : List Value} {m : yM} {Q : Option Value → yM → Prop} {M : xM} {i : Instr}
/-- a step by computation -/
theorem y_st {pc' : Nat} {lv' : xL} {st' : List Value} {m' : yM} (hc : xcd y pc = some (i, len)) (hM : xms y = some M) (h1 : x_cl i = none) (h2 : x_ret i M.2.2.2.1 st = none) (h3 : x_mi i st = none)
    (h4 : ∀ ck cs, x_step G M.2.2.1 len pc i lv st (y_w m) ck cs = some (pc', lv', st', y_w m', ck, cs)) (k : yP G d y pc' lv' st' m' Q) : yP G d y pc lv st m Q := by
  obtain ⟨n, r, m2, hx, hq⟩ := k
  refine ⟨n + 1, r, m2, fun ck cs => ?_, hq⟩
  unfold x_exec
  rw [hc, hM]
  try dsimp only
  rw [h1]
  try dsimp only
  rw [h2]
  try dsimp only
  rw [h3]
  try dsimp only
  rw [h4]
  exact hx ck cs
theorem y_mi {st' rs : List Value} (hc : xcd y pc = some (i, len)) (hM : xms y = some M) (h1 : x_cl i = none) (h2 : x_ret i M.2.2.2.1 st = none) (h3 : x_mi i st = some (st', rs)) (h4 : x_cat rs ≤ 8) (hd : 1 ≤ d) (k : yP G d y (pc + 3) lv st' m Q) : yP G d y pc lv st m Q := by
  obtain ⟨n, r, m2, hx, hq⟩ := k
  refine ⟨n + 1, r, m2, fun ck cs => ?_, hq⟩
  unfold x_exec
  rw [hc, hM]
  try dsimp only
  rw [h1]
  try dsimp only
  rw [h2]
  try dsimp only
  rw [h3]
  try dsimp only
  rw [if_pos ⟨h4, hd⟩]
  exact hx ck cs
theorem y_ret {v : Option Value} (hc : xcd y pc = some (i, len)) (hM : xms y = some M) (h1 : x_cl i = none) (h2 : x_ret i M.2.2.2.1 st = some v) (hq : Q v m) : yP G d y pc lv st m Q := by
  refine ⟨1, v, m, fun ck cs => ?_, hq⟩
  unfold x_exec
  rw [hc, hM]
  try dsimp only
  rw [h1]
  try dsimp only
  rw [h2]
theorem y_call {kd j : Nat} {M' : xM} {as rs : List Value} {Q' : Option Value → yM → Prop} (hc : xcd y pc = some (i, len)) (hM : xms y = some M) (h1 : x_cl i = some (kd, j)) (hj : xms j = some M') (h2 : x_take M'.2.2.2.2.1 st = some (as, rs)) (h3 : x_cat rs ≤ 8) (h4 : x_cat as ≤ M'.2.2.1) (h5 : x_rcv G kd M'.2.2.2.2.2 as (y_w m) = true) (h6 : M'.2.2.2.2.2 ≠ 99)
    (hcall : yC G d j as m Q') (k : ∀ v m', Q' v m' → yP G (d + 1) y (pc + 3) lv (v.toList ++ rs) m' Q) : yP G (d + 1) y pc lv st m Q := by
  obtain ⟨n1, v, m1, hx1, hq1⟩ := hcall
  obtain ⟨n2, r, m2, hx2, hq2⟩ := k v m1 hq1
  refine ⟨max n1 n2 + 1, r, m2, fun ck cs => ?_, hq2⟩
  unfold x_exec
  rw [hc, hM]
  try dsimp only
  rw [h1]
  try dsimp only
  rw [hj]
  try dsimp only
  rw [h2]
  try dsimp only
  rw [if_pos ⟨h3, h4, h5, h6⟩, x_fuel n1 (max n1 n2) d d _ _ _ _ _ _ _ _ (Nat.le_max_left _ _) (Nat.le_refl _) (hx1 0 0)]
  exact x_fuel n2 (max n1 n2) _ _ _ _ _ _ _ _ _ _ (Nat.le_max_right _ _) (Nat.le_refl _) (hx2 ck cs)
/-- branches -/
theorem y_if0 {cd : ClassFile.Cond} {off : Int} {x : Int32} {rs : List Value} {t : Nat} (hc : xcd y pc = some (.ifCond cd off, len)) (hM : xms y = some M) (ht : x_to pc off = some t) (k1 : x_c0 cd x = true → yP G d y t lv rs m Q) (k2 : x_c0 cd x = false → yP G d y (pc + 3) lv rs m Q) : yP G d y pc lv (.int x :: rs) m Q := by
  cases hb : x_c0 cd x with
  | true =>
    refine y_st hc hM rfl rfl rfl (fun ck cs => ?_) (k1 hb)
    show x_jp lv rs (y_w m) ck cs (x_if pc off (x_c0 cd x)) = _
    rw [hb]
    unfold x_if
    rw [ht]
    rfl
  | false =>
    refine y_st hc hM rfl rfl rfl (fun ck cs => ?_) (k2 hb)
    show x_jp lv rs (y_w m) ck cs (x_if pc off (x_c0 cd x)) = _
    rw [hb]
    unfold x_if
    rw [ht]
    rfl
theorem y_if2 {cd : ClassFile.Cond} {off : Int} {x x2 : Int32} {rs : List Value} {t : Nat} (hc : xcd y pc = some (.if_icmp cd off, len)) (hM : xms y = some M) (ht : x_to pc off = some t) (k1 : x_c2 cd x x2 = true → yP G d y t lv rs m Q) (k2 : x_c2 cd x x2 = false → yP G d y (pc + 3) lv rs m Q) : yP G d y pc lv (.int x2 :: .int x :: rs) m Q := by
  cases hb : x_c2 cd x x2 with
  | true =>
    refine y_st hc hM rfl rfl rfl (fun ck cs => ?_) (k1 hb)
    show x_jp lv rs (y_w m) ck cs (x_if pc off (x_c2 cd x x2)) = _
    rw [hb]
    unfold x_if
    rw [ht]
    rfl
  | false =>
    refine y_st hc hM rfl rfl rfl (fun ck cs => ?_) (k2 hb)
    show x_jp lv rs (y_w m) ck cs (x_if pc off (x_c2 cd x x2)) = _
    rw [hb]
    unfold x_if
    rw [ht]
    rfl
/-- fields: .getfield k of the object a -/
theorem y_gf {k a ci : Nat} {ks : List Value} {v : Value} {rs : List Value} (hc : xcd y pc = some (.getfield k, len)) (hM : xms y = some M) (hs : ysh[a]? = some (.inr (ci, ks))) (hk : ci = k / 100) (hv : ks[k % 100]? = some v) (kk : yP G d y (pc + 3) lv (y_v m a (k % 100) v :: rs) m Q) : yP G d y pc lv (.ref a :: rs) m Q := by
  refine y_st hc hM rfl rfl rfl (fun ck cs => ?_) kk
  show x_st pc 3 lv (y_w m) ck cs (x_gf (y_w m) k (.ref a :: rs)) = _
  have h1 : (y_w m)[a]? = some (y_c m a (.inr (ci, ks))) := y_get hs
  have h2 : (y_f m a 0 ks)[k % 100]? = some (y_v m a (k % 100) v) := by rw [y_f_get, hv, Nat.zero_add]; rfl
  unfold x_gf
  try dsimp only
  rw [h1]
  dsimp only [y_c]
  rw [if_pos hk, h2]
  rfl
theorem y_pfi {k a ci : Nat} {ks : List Value} {x0 x : Int32} {rs : List Value} (hc : xcd y pc = some (.putfield k, len)) (hM : xms y = some M) (hs : ysh[a]? = some (.inr (ci, ks))) (hk : ci = k / 100) (hv : ks[k % 100]? = some (.int x0)) (hf : x_fit (G.2.1 ci (k % 100)) (.int x) = true) (kk : yP G d y (pc + 3) lv rs (y_si m a (k % 100) x) Q) : yP G d y pc lv (.int x :: .ref a :: rs) m Q := by
  refine y_st hc hM rfl rfl rfl (fun ck cs => ?_) kk
  show x_sw pc 3 lv ck cs (x_pf G (y_w m) k (.int x :: .ref a :: rs)) = _
  have h1 : (y_w m)[a]? = some (y_c m a (.inr (ci, ks))) := y_get hs
  have h3 : k % 100 < ks.length := (List.getElem?_eq_some_iff.mp hv).1
  unfold x_pf
  try dsimp only
  rw [h1]
  dsimp only [y_c]
  rw [if_pos ⟨hk, by rw [y_f_len]; exact h3, hf⟩]
  have h4 : (y_w m).set a (.inr (ci, (y_f m a 0 ks).set (k % 100) (.int x))) = y_w (y_si m a (k % 100) x) := y_set_fi hs hv
  rw [h4]
  rfl
theorem y_pfl {k a ci : Nat} {ks : List Value} {x0 x : Int64} {rs : List Value} (hc : xcd y pc = some (.putfield k, len)) (hM : xms y = some M) (hs : ysh[a]? = some (.inr (ci, ks))) (hk : ci = k / 100) (hv : ks[k % 100]? = some (.long x0)) (hf : x_fit (G.2.1 ci (k % 100)) (.long x) = true) (kk : yP G d y (pc + 3) lv rs (y_sl m a (k % 100) x) Q) : yP G d y pc lv (.long x :: .ref a :: rs) m Q := by
  refine y_st hc hM rfl rfl rfl (fun ck cs => ?_) kk
  show x_sw pc 3 lv ck cs (x_pf G (y_w m) k (.long x :: .ref a :: rs)) = _
  have h1 : (y_w m)[a]? = some (y_c m a (.inr (ci, ks))) := y_get hs
  have h3 : k % 100 < ks.length := (List.getElem?_eq_some_iff.mp hv).1
  unfold x_pf
  try dsimp only
  rw [h1]
  dsimp only [y_c]
  rw [if_pos ⟨hk, by rw [y_f_len]; exact h3, hf⟩]
  have h4 : (y_w m).set a (.inr (ci, (y_f m a 0 ks).set (k % 100) (.long x))) = y_w (y_sl m a (k % 100) x) := y_set_fl hs hv
  rw [h4]
  rfl
theorem y_pfr {k a ci r : Nat} {ks : List Value} {rs : List Value} (hc : xcd y pc = some (.putfield k, len)) (hM : xms y = some M) (hs : ysh[a]? = some (.inr (ci, ks))) (hk : ci = k / 100) (hv : ks[k % 100]? = some (.retAddr r)) (hf : x_fit (G.2.1 ci (k % 100)) (.ref r) = true) (kk : yP G d y (pc + 3) lv rs (y_si m a (k % 100) 1) Q) : yP G d y pc lv (.ref r :: .ref a :: rs) m Q := by
  refine y_st hc hM rfl rfl rfl (fun ck cs => ?_) kk
  show x_sw pc 3 lv ck cs (x_pf G (y_w m) k (.ref r :: .ref a :: rs)) = _
  have h1 : (y_w m)[a]? = some (y_c m a (.inr (ci, ks))) := y_get hs
  have h3 : k % 100 < ks.length := (List.getElem?_eq_some_iff.mp hv).1
  unfold x_pf
  try dsimp only
  rw [h1]
  dsimp only [y_c]
  rw [if_pos ⟨hk, by rw [y_f_len]; exact h3, hf⟩]
  have h4 : (y_w m).set a (.inr (ci, (y_f m a 0 ks).set (k % 100) (.ref r))) = y_w (y_si m a (k % 100) 1) := y_set_fr hs hv
  rw [h4]
  rfl
/-- arrays -/
theorem y_iald {a n : Nat} {x : Int32} {rs : List Value} (hc : xcd y pc = some (.iaload, len)) (hM : xms y = some M) (hs : ysh[a]? = some (.inl (0, n))) (hi : x_in x n = true) (kk : yP G d y (pc + 1) lv (.int (m.1 a x.toNatClampNeg) :: rs) m Q) : yP G d y pc lv (.int x :: .ref a :: rs) m Q := by
  refine y_st hc hM rfl rfl rfl (fun ck cs => ?_) kk
  show x_st pc 1 lv (y_w m) ck cs (x_ai G 0 0 .int (y_w m) (.int x :: .ref a :: rs)) = _
  have h1 : (y_w m)[a]? = some (y_c m a (.inl (0, n))) := y_get hs
  unfold x_ai
  try dsimp only
  rw [h1]
  dsimp only [y_c]
  rw [if_neg (by decide : ¬ (0 : Nat) = 1)]
  try dsimp only
  rw [if_pos ⟨Or.inl rfl, hi⟩]
  rfl
theorem y_bald {a n t : Nat} {x : Int32} {rs : List Value} (hc : xcd y pc = some (.baload, len)) (hM : xms y = some M) (hs : ysh[a]? = some (.inl (t, n))) (ht : t = 2 ∨ t = 3) (hi : x_in x n = true) (kk : yP G d y (pc + 1) lv (.int (m.1 a x.toNatClampNeg) :: rs) m Q) : yP G d y pc lv (.int x :: .ref a :: rs) m Q := by
  refine y_st hc hM rfl rfl rfl (fun ck cs => ?_) kk
  show x_st pc 1 lv (y_w m) ck cs (x_ai G 2 3 .byte (y_w m) (.int x :: .ref a :: rs)) = _
  have h1 : (y_w m)[a]? = some (y_c m a (.inl (t, n))) := y_get hs
  unfold x_ai
  try dsimp only
  rw [h1]
  dsimp only [y_c]
  rw [if_neg (by omega : ¬ t = 1)]
  try dsimp only
  rw [if_pos ⟨ht, hi⟩]
  rfl
theorem y_lald {a n : Nat} {x : Int32} {rs : List Value} (hc : xcd y pc = some (.laload, len)) (hM : xms y = some M) (hs : ysh[a]? = some (.inl (1, n))) (hi : x_in x n = true) (kk : yP G d y (pc + 1) lv (.long (m.2 a x.toNatClampNeg) :: rs) m Q) : yP G d y pc lv (.int x :: .ref a :: rs) m Q := by
  refine y_st hc hM rfl rfl rfl (fun ck cs => ?_) kk
  show x_st pc 1 lv (y_w m) ck cs (x_al (y_w m) (.int x :: .ref a :: rs)) = _
  have h1 : (y_w m)[a]? = some (y_c m a (.inl (1, n))) := y_get hs
  unfold x_al
  try dsimp only
  rw [h1]
  dsimp only [y_c]
  rw [if_pos rfl]
  show x_st pc 1 lv (y_w m) ck cs (if x_in x n = true then some (.long (m.2 a x.toNatClampNeg) :: rs) else none) = _
  rw [if_pos hi]
  rfl
theorem y_iast {a n : Nat} {x v : Int32} {rs : List Value} (hc : xcd y pc = some (.iastore, len)) (hM : xms y = some M) (hs : ysh[a]? = some (.inl (0, n))) (hi : x_in x n = true) (kk : yP G d y (pc + 1) lv rs (y_si m a x.toNatClampNeg v) Q) : yP G d y pc lv (.int v :: .int x :: .ref a :: rs) m Q := by
  refine y_st hc hM rfl rfl rfl (fun ck cs => ?_) kk
  show x_sw pc 1 lv ck cs (x_si false (y_w m) (.int v :: .int x :: .ref a :: rs)) = _
  have h1 : (y_w m)[a]? = some (.inl (0, n, .inl (m.1 a))) := y_get hs
  unfold x_si
  try dsimp only
  rw [h1]
  show x_sw pc 1 lv ck cs (if false = false ∧ x_in x n = true then some (rs, (y_w m).set a (.inl (0, n, .inl (upd (m.1 a) x.toNatClampNeg v)))) else none) = _
  rw [if_pos ⟨rfl, hi⟩]
  have h4 : (y_w m).set a (.inl (0, n, .inl (upd (m.1 a) x.toNatClampNeg v))) = y_w (y_si m a x.toNatClampNeg v) := y_set_i hs (by decide)
  rw [h4]
  rfl
theorem y_bast {a n : Nat} {x v : Int32} {rs : List Value} (hc : xcd y pc = some (.bastore, len)) (hM : xms y = some M) (hs : ysh[a]? = some (.inl (2, n))) (hi : x_in x n = true) (kk : yP G d y (pc + 1) lv rs (y_si m a x.toNatClampNeg (vp_nar .byte v)) Q) : yP G d y pc lv (.int v :: .int x :: .ref a :: rs) m Q := by
  refine y_st hc hM rfl rfl rfl (fun ck cs => ?_) kk
  show x_sw pc 1 lv ck cs (x_si true (y_w m) (.int v :: .int x :: .ref a :: rs)) = _
  have h1 : (y_w m)[a]? = some (.inl (2, n, .inl (m.1 a))) := y_get hs
  unfold x_si
  try dsimp only
  rw [h1]
  show x_sw pc 1 lv ck cs (if true = true ∧ x_in x n = true then some (rs, (y_w m).set a (.inl (2, n, .inl (upd (m.1 a) x.toNatClampNeg (vp_nar .byte v))))) else none) = _
  rw [if_pos ⟨rfl, hi⟩]
  have h4 : (y_w m).set a (.inl (2, n, .inl (upd (m.1 a) x.toNatClampNeg (vp_nar .byte v)))) = y_w (y_si m a x.toNatClampNeg (vp_nar .byte v)) := y_set_i hs (by decide)
  rw [h4]
  rfl
theorem y_zast {a n : Nat} {x v : Int32} {rs : List Value} (hc : xcd y pc = some (.bastore, len)) (hM : xms y = some M) (hs : ysh[a]? = some (.inl (3, n))) (hi : x_in x n = true) (kk : yP G d y (pc + 1) lv rs (y_si m a x.toNatClampNeg (vp_nar .boolean v)) Q) : yP G d y pc lv (.int v :: .int x :: .ref a :: rs) m Q := by
  refine y_st hc hM rfl rfl rfl (fun ck cs => ?_) kk
  show x_sw pc 1 lv ck cs (x_si true (y_w m) (.int v :: .int x :: .ref a :: rs)) = _
  have h1 : (y_w m)[a]? = some (.inl (3, n, .inl (m.1 a))) := y_get hs
  unfold x_si
  try dsimp only
  rw [h1]
  show x_sw pc 1 lv ck cs (if true = true ∧ x_in x n = true then some (rs, (y_w m).set a (.inl (3, n, .inl (upd (m.1 a) x.toNatClampNeg (vp_nar .boolean v))))) else none) = _
  rw [if_pos ⟨rfl, hi⟩]
  have h4 : (y_w m).set a (.inl (3, n, .inl (upd (m.1 a) x.toNatClampNeg (vp_nar .boolean v)))) = y_w (y_si m a x.toNatClampNeg (vp_nar .boolean v)) := y_set_i hs (by decide)
  rw [h4]
  rfl
theorem y_last {a n : Nat} {x : Int32} {v : Int64} {rs : List Value} (hc : xcd y pc = some (.lastore, len)) (hM : xms y = some M) (hs : ysh[a]? = some (.inl (1, n))) (hi : x_in x n = true) (kk : yP G d y (pc + 1) lv rs (y_sl m a x.toNatClampNeg v) Q) : yP G d y pc lv (.long v :: .int x :: .ref a :: rs) m Q := by
  refine y_st hc hM rfl rfl rfl (fun ck cs => ?_) kk
  show x_sw pc 1 lv ck cs (x_sl (y_w m) (.long v :: .int x :: .ref a :: rs)) = _
  have h1 : (y_w m)[a]? = some (.inl (1, n, .inr (.inl (m.2 a)))) := y_get hs
  unfold x_sl
  try dsimp only
  rw [h1]
  show x_sw pc 1 lv ck cs (if x_in x n = true then some (rs, (y_w m).set a (.inl (1, n, .inr (.inl (vp_updL (m.2 a) x.toNatClampNeg v))))) else none) = _
  rw [if_pos hi]
  have h4 : (y_w m).set a (.inl (1, n, .inr (.inl (vp_updL (m.2 a) x.toNatClampNeg v)))) = y_w (y_sl m a x.toNatClampNeg v) := y_set_l hs
  rw [h4]
  rfl
end YR
