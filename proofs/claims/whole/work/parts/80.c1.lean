/-! TWO CONTRACTS OF ONE CALL -/
theorem yC.and {G : xG} {d j : Nat} {as : List Value} {m : yM} {Q Q' : Option Value → yM → Prop} (h : yC G d j as m Q) (h' : yC G d j as m Q') : yC G d j as m (fun r m' => Q r m' ∧ ∃ m'', y_w m'' = y_w m' ∧ Q' r m'') := by
  obtain ⟨n1, r1, m1, x1, q1⟩ := h
  obtain ⟨n2, r2, m2, x2, q2⟩ := h'
  have a := x_fuel n1 (n1 + n2) d d j 0 _ _ _ 0 0 _ (by omega) (Nat.le_refl _) (x1 0 0)
  have b := x_fuel n2 (n1 + n2) d d j 0 _ _ _ 0 0 _ (by omega) (Nat.le_refl _) (x2 0 0)
  rw [a] at b
  have e := Option.some.inj b
  have e1 : r1 = r2 := congrArg Prod.fst e
  have e2 : y_w m1 = y_w m2 := congrArg (fun z => z.2.1) e
  refine ⟨n1, r1, m1, x1, q1, m2, e2.symm, ?_⟩
  rw [e1]
  exact q2
/-- an array of ints, a field of the reference, in one world -/
theorem y_w_a {m m' : yM} (h : y_w m = y_w m') {k t n : Nat} (hk : ysh[k]? = some (.inl (t, n))) (ht : ¬ t = 1) : m.1 k = m'.1 k := by
  have a : (y_w m)[k]? = some (y_c m k (.inl (t, n))) := y_get hk
  have b : (y_w m')[k]? = some (y_c m' k (.inl (t, n))) := y_get hk
  rw [h, b] at a
  have e := Option.some.inj a
  unfold y_c at e
  dsimp only at e
  rw [if_neg ht, if_neg ht] at e
  simp only [Sum.inl.injEq, Prod.mk.injEq, true_and] at e
  exact e.symm
theorem y_w_f {m m' : yM} (h : y_w m = y_w m') {k ci i : Nat} {ks : List Value} {x : Int32} (hk : ysh[k]? = some (.inr (ci, ks))) (hi : ks[i]? = some (.int x)) : m.1 k i = m'.1 k i := by
  have a : (y_w m)[k]? = some (y_c m k (.inr (ci, ks))) := y_get hk
  have b : (y_w m')[k]? = some (y_c m' k (.inr (ci, ks))) := y_get hk
  rw [h, b] at a
  have e := Option.some.inj a
  unfold y_c at e
  simp only [Sum.inr.injEq, Prod.mk.injEq, true_and] at e
  have g := congrArg (fun l => l[i]?) e
  simp only [y_f_get, hi, Option.map_some, y_v, Nat.zero_add, Option.some.injEq, Value.int.injEq] at g
  exact g.symm
