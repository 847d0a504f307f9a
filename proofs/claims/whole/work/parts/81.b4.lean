/-! THE REFERENCE'S PLACE: whole calls -/
theorem xms_e {j : Nat} {M : xM} (h : xms j = some M) : M = xm j := by
  unfold xms at h
  cases hb : Nat.blt j 408 with
  | true => rw [hb] at h; exact (Option.some.inj h).symm
  | false => rw [hb] at h; cases h
theorem inS_lt {y : Nat} (h : inS y = true) : y < 393 := by
  unfold inS at h
  rw [Bool.or_eq_true, Bool.and_eq_true, Bool.and_eq_true] at h
  rcases h with ⟨-, h⟩ | ⟨-, h⟩
  · have := Nat.le_of_ble_eq_true h; omega
  · have := Nat.le_of_ble_eq_true h; omega
theorem fl_0 (y : Nat) : fl y 0 = false := by
  unfold fl
  cases Nat.beq y 276 <;> rfl
theorem nzl_args {as : List Value} {a0 : Value} {x : Int32} {r : List Value} (e : as = a0 :: .int x :: r) (h0 : ¬ a0.category = 2) (hx : ¬ x = 0) : NZl (lv_args 0 as) := by
  refine ⟨x, ?_, hx⟩
  rw [e]
  show x_lk 1 ((0, a0) :: lv_args (if a0.category = 2 then 0 + 2 else 0 + 1) (.int x :: r)) = _
  rw [if_neg h0]
  rfl
theorem i4_exec {G : xG} {cd : Nat → Nat → Option (Instr × Nat)} (hcd : ∀ y pc i len, inS y = true → cd y pc = some (i, len) → ckI y pc i len = true) : ∀ (n d y pc : Nat) (lv : xL) (st : List Value) (w : xW) (ck cs : Nat) (v : Option Value) (w' : xW) (a b : Nat), inS y = true → x_exec G xms cd n d y pc lv st w ck cs = some (v, w', a, b) → soQ y pc lv st w → I4 w' ∧ v.isSome = rtM y := by
  intro n
  induction n with
  | zero => intro d y pc lv st w ck cs v w' a b _ h; cases h
  | succ n ih =>
    intro d y pc lv st w ck cs v w' a b hg h hs
    unfold x_exec at h
    split at h
    · rename_i i len M hc hM
      have hk := hcd y pc i len hg hc
      have eM := xms_e hM
      split at h
      · rename_i kd j hcl
        have hj : caT y pc j = true ∧ ((kd = 0 ∧ f3 j = false) ∨ (kd = 1 ∧ (f3 j = true → 2 ≤ anM j ∧ (tg y pc)[anM j - 2]? = some true))) := by
          cases i <;> first
            | (simp [x_cl] at hcl; done)
            | (exact absurd hk Bool.false_ne_true)
            | skip
          case invokestatic j' =>
            simp only [x_cl, Option.some.injEq, Prod.mk.injEq] at hcl
            obtain ⟨e1, e2⟩ := hcl
            subst e1 e2
            have hk : (caT y pc j' && !(f3 j')) = true := hk
            rw [Bool.and_eq_true] at hk
            exact ⟨hk.1, Or.inl ⟨rfl, by simpa using hk.2⟩⟩
          case invokevirtual j' =>
            simp only [x_cl, Option.some.injEq, Prod.mk.injEq] at hcl
            obtain ⟨e1, e2⟩ := hcl
            subst e1 e2
            have hk : (caT y pc j' && (!(f3 j') || (Nat.ble 2 (anM j') && ((tg y pc)[anM j' - 2]? == some true)))) = true := hk
            rw [Bool.and_eq_true] at hk
            refine ⟨hk.1, Or.inr ⟨rfl, fun z => ?_⟩⟩
            have h2 := hk.2
            rw [z] at h2
            have h2 : (Nat.ble 2 (anM j') && ((tg y pc)[anM j' - 2]? == some true)) = true := h2
            rw [Bool.and_eq_true] at h2
            exact ⟨Nat.le_of_ble_eq_true h2.1, by simpa using h2.2⟩
        obtain ⟨hca, hkd⟩ := hj
        unfold caT at hca
        rw [Bool.and_eq_true, Bool.and_eq_true] at hca
        obtain ⟨⟨hin, hon⟩, hfl⟩ := hca
        have hfl : fl y (pc + 3) = false := by simpa using hfl
        split at h
        · rename_i d' M' hM'
          have eM' := xms_e hM'
          subst eM'
          split at h
          · rename_i as r ht
            split at h
            · rename_i cnd
              split at h
              · rename_i v1 w1 mc mz hx
                unfold x_take at ht
                split at ht
                · rename_i hl
                  have e := Option.some.inj ht
                  have e1 : (st.take (anM j)).reverse = as := congrArg Prod.fst e
                  have e2 : st.drop (anM j) = r := congrArg Prod.snd e
                  have hl : anM j ≤ st.length := hl
                  have cal : soQ j 0 (lv_args 0 as) [] w := by
                    refine ⟨(fun k z => by rw [tg_0 j (inS_lt hin)] at z; simp at z), fun z => ?_, (fun z => by rw [fl_0] at z; cases z), hs.2.2.2⟩
                    rcases hkd with ⟨-, q⟩ | ⟨q1, q2⟩
                    · rw [q] at z; cases z
                    · obtain ⟨p1, p2⟩ := q2 z
                      obtain ⟨x, x1, x2⟩ := hs.1 _ p2
                      have rc := cnd.2.2.1
                      have g1 : as[1]? = some (.int x) := by
                        rw [← e1, List.getElem?_reverse (by rw [List.length_take]; omega), List.length_take, Nat.min_eq_left hl, List.getElem?_take_of_lt (by omega)]
                        rw [show anM j - 1 - 1 = anM j - 2 by omega]
                        exact x1
                      cases as with
                      | nil => simp at g1
                      | cons a0 as1 =>
                        cases as1 with
                        | nil => simp at g1
                        | cons a1 as2 =>
                          have g1 : a1 = .int x := by simpa using g1
                          subst g1
                          refine nzl_args rfl ?_ x2
                          rw [q1] at rc
                          cases a0 <;> first
                            | (intro zz; cases zz; done)
                            | (exact absurd rc Bool.false_ne_true)
                  obtain ⟨i1, i2⟩ := ih d' j 0 (lv_args 0 as) [] w 0 0 v1 w1 mc mz hin hx cal
                  have nx : soQ y (pc + 3) lv (v1.toList ++ r) w1 := by
                    refine ⟨fun k hk => ?_, hs.2.1, (fun z => by rw [hfl] at z; cases z), i1⟩
                    unfold onT at hon
                    rw [Bool.and_eq_true] at hon
                    refine nz_app (ts := bif rtM j then [false] else []) ?_ (fun k z => ?_) (by rw [← e2]; exact nz_drop hs.1 (anM j)) k (leT_at hon.1 k hk)
                    · rw [← i2]
                      cases v1 <;> rfl
                    · cases hr : rtM j with
                      | true => rw [hr] at z; cases k <;> simp at z
                      | false => rw [hr] at z; simp at z
                  exact ih _ y (pc + 3) lv (v1.toList ++ r) w1 _ _ v w' a b hg h nx
                · cases ht
              · cases h
            · cases h
          · cases h
        · cases h
      · split at h
        · rename_i v0 hr
          have e := Option.some.inj h
          have e1 : v0 = v := congrArg Prod.fst e
          have e2 : w = w' := congrArg (fun z => z.2.1) e
          rw [← e2, ← e1]
          refine ⟨hs.2.2.2, ?_⟩
          have er : M.2.2.2.1 = (xq y).2.2.2.2.2.1 := by rw [eM]; rfl
          unfold rtM
          rw [← er]
          unfold x_ret at hr
          split at hr
          · split at hr
            · rename_i hn
              rw [← Option.some.inj hr, hn]
              rfl
            · cases hr
          · split at hr
            · rename_i ty hty
              split at hr
              · rw [← Option.some.inj hr, hty]
                rfl
              · cases hr
            · cases hr
          · split at hr
            · rename_i hn
              rw [← Option.some.inj hr, hn]
              rfl
            · cases hr
          · split at hr
            · rename_i hty
              split at hr
              · cases hr
              · rw [← Option.some.inj hr, hty]
                rfl
            · cases hr
          · cases hr
        · split at h
          · rename_i st' r hm
            exfalso
            unfold x_mi at hm
            split at hm
            · exact absurd hk Bool.false_ne_true
            · exact absurd hk Bool.false_ne_true
            · exact absurd hk Bool.false_ne_true
            · exact absurd hk Bool.false_ne_true
            · exact absurd hk Bool.false_ne_true
            · cases hm
          · split at h
            · rename_i q hq
              exact ih d y q.1 q.2.1 q.2.2.1 q.2.2.2.1 _ _ v w' a b hg h (st_ok hk hq hs)
            · cases h
    · cases h
theorem cd4 : ∀ y pc i len, inS y = true → xcd y pc = some (i, len) → ckI y pc i len = true := by
  intro y pc i len hg hc
  unfold xcd at hc
  split at hc
  · rename_i l hl
    have hm := x_fd_mem hc
    have a := List.all_eq_true.mp (cd4a y (inS_lt hg) hg) l (List.mem_of_getElem? hl)
    exact List.all_eq_true.mp a _ hm
  · cases hc
def cl12 (s : yS) : Bool := match s with
  | .inl _ => false
  | .inr q => Nat.beq q.1 12
theorem sh58 : ∀ a, a < 100 → cl12 (ysh.getD a (.inl (0, 0))) = true → a = 58 := by decide +kernel
theorem len58 : ysh.length = 100 := by decide +kernel
theorem y_w58 (m : yM) : ∃ fs, (y_w m)[58]? = some (.inr (12, fs)) ∧ fs[3]? = some (.int (m.1 58 3)) ∧ fs[4]? = some (.int (m.1 58 4)) := by
  obtain ⟨ks, hk, k3, k4⟩ : ∃ ks, ysh[58]? = some (.inr (12, ks)) ∧ ks[3]? = some (.int 0) ∧ ks[4]? = some (.int 0) := ⟨_, rfl, rfl, rfl⟩
  have h : (y_w m)[58]? = some (y_c m 58 (.inr (12, ks))) := y_get hk
  refine ⟨y_f m 58 0 ks, h, ?_, ?_⟩
  · rw [y_f_get, k3]; rfl
  · rw [y_f_get, k4]; rfl
theorem I4_w {m : yM} (h : m.1 58 3 = 0 → m.1 58 4 = -1) : I4 (y_w m) := by
  obtain ⟨fs, h1, h2, h3⟩ := y_w58 m
  refine ⟨⟨fs, h1⟩, ?_, fun a gs e => ?_⟩
  · by_cases z : m.1 58 3 = 0
    · right
      rw [f58_at h1, h3, h z]
    · left
      exact ⟨_, by rw [f58_at h1, h2], z⟩
  · have e0 : (y_w m)[a]? = (ysh[a]?).map (y_c m (0 + a)) := y_wl_get m ysh 0 a
    rw [e0] at e
    cases hs : ysh[a]? with
    | none => rw [hs] at e; cases e
    | some s =>
      rw [hs] at e
      have e := Option.some.inj e
      have al := (List.getElem?_eq_some_iff.mp hs).1
      rw [len58] at al
      refine sh58 a al ?_
      rw [List.getD_eq_getElem?_getD, hs]
      show cl12 s = true
      cases s with
      | inl p => cases e
      | inr p =>
        have e := Sum.inr.inj e
        have e1 : p.1 = 12 := congrArg Prod.fst e
        show Nat.beq p.1 12 = true
        rw [e1]
        rfl
theorem I4_m {m : yM} (h : I4 (y_w m)) : m.1 58 3 = 0 → m.1 58 4 = -1 := by
  intro z
  obtain ⟨fs, h1, h2, h3⟩ := y_w58 m
  obtain ⟨-, q, -⟩ := h
  rcases q with ⟨x, x1, x2⟩ | q
  · rw [f58_at h1, h2] at x1
    have : m.1 58 3 = x := by simpa using x1
    exact absurd (this.symm.trans z) x2
  · rw [f58_at h1, h3] at q
    simpa using q
/-- a call that leaves no fault leaves the place -/
theorem yC.f4 {xs : List Int32} {d y : Nat} {as : List Value} {m : yM} {Q : Option Value → yM → Prop} (hy : inS y = true) (h3 : f3 y = false) (hI : m.1 58 3 = 0 → m.1 58 4 = -1) (h : yC (xg xs) d y as m Q) : yC (xg xs) d y as m (fun r m' => Q r m' ∧ (m'.1 58 3 = 0 → m'.1 58 4 = -1)) := by
  obtain ⟨n, r, m', hx, hq⟩ := h
  refine ⟨n, r, m', hx, hq, I4_m (i4_exec cd4 n d y 0 (lv_args 0 as) [] (y_w m) 0 0 r (y_w m') 0 0 hy (hx 0 0) ?_).1⟩
  refine ⟨(fun k z => by rw [tg_0 y (inS_lt hy)] at z; simp at z), (fun z => by rw [h3] at z; cases z), (fun z => by rw [fl_0] at z; cases z), I4_w hI⟩
