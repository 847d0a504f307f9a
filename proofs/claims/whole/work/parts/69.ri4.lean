/-! THE REFERENCE'S READER: the next token -/
def RRn (E : EV) (t o z : Nat) (Rs : List (List Int32)) (m : yM) : Prop := NK E.2.1 m ∧ TY m E.2.2.1 E.2.2.2.1 ∧ NR m Rs ∧ Rs.length ≤ ps E.2.2.1 E.2.2.2.1 t ∧ offs Rs Rs.length ≤ ps E.2.2.1 E.2.2.2.1 t ∧ t ≤ E.2.2.2.2 ∧ m.1 58 3 = 0 ∧ m.1 58 5 = nI (ps E.2.2.1 E.2.2.2.1 t) ∧ m.1 58 8 = (if t = 0 then 0 else E.1.1 10 (t - 1)) ∧ m.1 58 22 = nI o ∧ o ≤ 60 ∧ m.1 58 21 = nI z ∧ z ≤ 19999 ∧ GI m
def FM (m m' : yM) : Prop := ∀ a i, 62 ≤ a → m'.1 a i = m.1 a i
theorem tkAt_0 {f : Nat → Nat} {n p : Nat} (h : (tkAt f n p).1 = 0) : (tkAt f n p).2.2 = p := by
  unfold tkAt at h ⊢
  split
  · rfl
  · rename_i z
    rw [if_neg z] at h
    split
    · rename_i z; rw [if_pos z] at h
      have := timT_K f n p (rn f (isDg 10) (n - (p + 2)) (p + 2)) (dv f 10 (n - (p + 2)) (p + 2) 0)
      omega
    · rename_i z
      rw [if_neg z] at h
      split
      · rename_i z; rw [if_pos z] at h
        have := numT_K f n p (rn f (isDg 10) (n - p) p) (dv f 10 (n - p) p 0)
        omega
      · rename_i z
        rw [if_neg z] at h
        split
        · rename_i z; rw [if_pos z] at h
          split at h <;> exact absurd h (by simp)
        · rename_i z
          rw [if_neg z] at h
          split
          · rename_i z; rw [if_pos z] at h
            have := plT_K f n p (rn f (isDg 10) (n - (p + 3)) (p + 3)) (dv f 10 (n - (p + 3)) (p + 3) 0)
            omega
          · rename_i z
            rw [if_neg z] at h
            have := sgT_K f n p
            omega
theorem RRo.rd {E : EV} {t o z : Nat} {Rs : List (List Int32)} {m : yM} (h : RRo E t o z Rs m) (lt : t < E.2.2.2.2) : RRn E (t + 1) o z Rs m := by
  obtain ⟨h1, h2, h3, h4, h5, h6, h7, h8, h9, h10, h11, h12, h13, h14, h15, h16⟩ := h
  exact ⟨h1, h2, h3, h4, h5, lt, h7, h8, by rw [if_neg (by omega)]; exact h9, h12, h13, h14, h15, h16⟩
theorem NR.at0 {m : yM} {Rs : List (List Int32)} (h : NR m Rs) : m.1 61 0 = 0 := by
  have := h.2.1 0 (Nat.zero_le _)
  rw [this, offs_0]
  rfl
theorem nxt {E : EV} (hE : EOk E) {t o z : Nat} {Rs : List (List Int32)} {m m' : yM} {r : Option Value} (h : RRn E t o z Rs m) (hq : nxQ m E.2.2.1 E.2.2.2.1 (ps E.2.2.1 E.2.2.2.1 t) Rs r m') : r = none ∧ FM m m' ∧ (if E.1.1 9 t = 68 then RRe E (E.1.1 11 t) (E.1.1 10 t) m' else ∃ Rs', Rs <+: Rs' ∧ RRo E t o z Rs' m') := by
  obtain ⟨h1, h2, h3, h4, h5, h6, h7, h8, h9, h10, h11, h12, h13, h14⟩ := h
  obtain ⟨k1, k2, k3, k4, k5, Ns, k6, k7, k8⟩ := hE
  obtain ⟨a1, a2⟩ := k8 t h6
  obtain ⟨m0, mS, f, n, T⟩ := E
  dsimp only at *
  have hp : ps f n t ≤ n := by
    have := psL (E := (m0, mS, f, n, T)) ⟨k1, k2, k3, k4, k5, Ns, k6, k7, k8⟩ t h6
    exact this
  have hb := blk_le f n 8192 (ps f n t) hp
  have hn := h2.2.1
  have e2 : (tokN f n (ps f n t)).2 = (blk f n 8192 (ps f n t)).1 := rfl
  have eps : ps f n (t + 1) = (tokN f n (ps f n t)).1.2.2 := rfl
  rw [← e2] at hb
  unfold nxQ at hq
  by_cases zb : (blk f n 8192 (ps f n t)).2 = true
  · rw [if_pos zb] at hq
    have et : (tokN f n (ps f n t)).1 = (5, 2, 0) := by unfold tokN; rw [if_pos zb]
    rw [et, if_neg (by decide)] at a2
    obtain ⟨rfl, rfl⟩ := hq
    have ek : m0.1 9 t = 68 := a2.1
    have ev : m0.1 11 t = nI 2 := a2.2
    refine ⟨rfl, fun a i ha => ?_, ?_⟩
    · simp only [bdR, y_si_at]
      rw [if_neg (by omega), if_neg (by omega), if_neg (by omega), if_neg (by omega), if_neg (by omega)]
    · rw [if_pos ek, ev, a1]
      refine ⟨((((h1.si (by omega)).si (by omega)).si (by omega)).si (by omega)).si (by omega), by simp [bdR, y_si_at], by decide, by simp [bdR, y_si_at], ⟨z, by simp [bdR, y_si_at, h12], h13⟩, ((((h14.si (by omega)).si (by omega)).si (by omega)).si (by omega)).si (by omega), ?_⟩
      have := h3.at0
      simp [bdR, y_si_at, this]
  · rw [if_neg zb] at hq
    have et : (tokN f n (ps f n t)).1 = tkAt f n (tokN f n (ps f n t)).2 := by
      rw [e2]
      unfold tokN
      rw [if_neg zb]
    generalize (tokN f n (ps f n t)).2 = b at *
    -- behind the token's first byte
    have n9 : NK mS (nxM m b) := ((h1.si (by omega)).si (by omega)).si (by omega)
    have t9 : TY (nxM m b) f n := ((h2.si (by decide) (Or.inr (by decide))).si (by decide) (Or.inr (by decide))).si (by decide) (Or.inr (by decide))
    have r9 : NR (nxM m b) Rs := ((h3.si (by decide) (Or.inr (by decide))).si (by decide) (Or.inr (by decide))).si (by decide) (Or.inr (by decide))
    have g9 : GI (nxM m b) := ((h14.si (by decide)).si (by decide)).si (by decide)
    have f9 : FM m (nxM m b) := fun a i ha => by
      simp only [nxM, y_si_at]
      rw [if_neg (by omega), if_neg (by omega), if_neg (by omega)]
    have x8 : (nxM m b).1 58 8 = nI b := by simp [nxM, y_si_at]
    have x9 : (nxM m b).1 58 9 = (if t = 0 then 0 else m0.1 10 (t - 1)) := by simp [nxM, y_si_at, h9]
    have x3 : (nxM m b).1 58 3 = 0 := by simp [nxM, y_si_at, h7]
    have x22 : (nxM m b).1 58 22 = nI o := by simp [nxM, y_si_at, h10]
    have x21 : (nxM m b).1 58 21 = nI z := by simp [nxM, y_si_at, h12]
    generalize nxM m b = M at *
    -- a token that is not bad
    have ok : ∀ (M2 : yM) (Rs' : List (List Int32)) (a v : Int32), NK mS M2 → TY M2 f n → NR M2 Rs' → GI M2 → FM m M2 → M2.1 58 8 = nI b → M2.1 58 9 = (if t = 0 then 0 else m0.1 10 (t - 1)) → M2.1 58 3 = 0 → M2.1 58 22 = nI o → M2.1 58 21 = nI z → Rs <+: Rs' → Rs'.length ≤ ps f n (t + 1) → offs Rs' Rs'.length ≤ ps f n (t + 1) → RK (m0, mS, f, n, T) Rs' t a v → ¬ m0.1 9 t = 68 → m' = tkn M2 a v (nI (ps f n (t + 1))) → FM m m' ∧ (if m0.1 9 t = 68 then RRe (m0, mS, f, n, T) (m0.1 11 t) (m0.1 10 t) m' else ∃ Rs', Rs <+: Rs' ∧ RRo (m0, mS, f, n, T) t o z Rs' m') := by
      intro M2 Rs' a v q1 q2 q3 q4 q5 q6 q7 q8 q9 q10 q11 q12 q13 q14 q15 q16
      subst q16
      refine ⟨fun x i hx => ?_, ?_⟩
      · simp only [tkn, y_si_at]
        rw [if_neg (by omega), if_neg (by omega), if_neg (by omega)]
        exact q5 x i hx
      · rw [if_neg q15]
        refine ⟨Rs', q11, ((q1.si (by omega)).si (by omega)).si (by omega), ((q2.si (by decide) (Or.inr (by decide))).si (by decide) (Or.inr (by decide))).si (by decide) (Or.inr (by decide)), ((q3.si (by decide) (Or.inr (by decide))).si (by decide) (Or.inr (by decide))).si (by decide) (Or.inr (by decide)), q12, q13, h6, by simp [tkn, y_si_at, q8], by simp [tkn, y_si_at], ?_, by simp [tkn, y_si_at, q7], ?_, by simp [tkn, y_si_at, q9], h11, by simp [tkn, y_si_at, q10], h13, ((q4.si (by decide)).si (by decide)).si (by decide)⟩
        · rw [a1]; simp [tkn, y_si_at, q6]
        · have e6 : (tkn M2 a v (nI (ps f n (t + 1)))).1 58 6 = a := by simp [tkn, y_si_at]
          have e7 : (tkn M2 a v (nI (ps f n (t + 1)))).1 58 7 = v := by simp [tkn, y_si_at]
          rw [e6, e7]
          exact q14
    by_cases z1 : (tokN f n (ps f n t)).1.1 = 1
    · rw [if_pos z1] at hq a2
      obtain ⟨j, j1, j2, j3, j4⟩ := a2
      have ewd : wd f n t = nmT f (tokN f n (ps f n t)).2 ((tokN f n (ps f n t)).1.2.2 - (tokN f n (ps f n t)).2) := rfl
      have ad := tkAt_adv (f := f) (n := n) (p := b) (by rw [← et, z1]; decide) (by rw [← et, z1]; decide)
      rw [← et, ← eps] at ad
      have eb2 : (tokN f n (ps f n t)).2 = b := e2.symm
      rw [eb2] at ewd
      obtain ⟨rfl, hw⟩ := hq
      refine ⟨rfl, ?_⟩
      have N75 : 75 ≤ Ns.length := by
        obtain ⟨S, rfl⟩ := k6
        rw [List.length_append, KN41.1]
        omega
      rcases hw with ⟨w, w1, w2, w3⟩ | ⟨w1, j', Rs', m2, w2, w3, w4, w5, w6, w7⟩
      · have ej : j = w := by
          refine nodup_getD k7 j1 (by omega) ?_
          rw [j2, getD_pre k6 (by omega), w2]
        subst ej
        rw [if_pos w1] at j3
        refine ok M Rs 1 (nI j) n9 t9 r9 g9 f9 x8 x9 x3 x22 x21 (List.prefix_refl _) (by omega) (by omega) ⟨j, j3, by omega, Or.inl ⟨w1, rfl, rfl⟩⟩ ?_ w3
        rw [j3]
        exact fun u => absurd ((nI_eq (a := j) (b := 68) (by omega) (by decide)).mp u) (by omega)
      · have nj : ¬ j < 41 := by
          intro u
          refine w1 ?_
          rw [← j2, getD_pre k6 (by omega), List.getD_eq_getElem?_getD, List.getElem?_eq_getElem (by rw [KN41.1]; omega)]
          show KN[j]'_ ∈ KN.take 41
          rw [List.mem_take_iff_getElem]
          exact ⟨j, by rw [KN41.1]; omega, rfl⟩
        rw [if_neg nj] at j3
        have pre : Rs <+: Rs' := by
          rcases w6 with w6 | w6
          · rw [w6.1]; exact List.prefix_refl _
          · rw [w6.2.1]; exact List.prefix_append _ _
        have len : Rs'.length ≤ ps f n (t + 1) ∧ offs Rs' Rs'.length ≤ ps f n (t + 1) := by
          rcases w6 with w6 | w6
          · rw [w6.1]; omega
          · rw [w6.2.1]
            have e3 : offs (Rs ++ [nmT f b (ps f n (t + 1) - b)]) (Rs ++ [nmT f b (ps f n (t + 1) - b)]).length = offs Rs Rs.length + (ps f n (t + 1) - b) := by
              rw [List.length_append, List.length_singleton, offs_s _ (by simp)]
              rw [offs_a _ _ (Nat.le_refl _)]
              simp [nmT_len, List.getD_eq_getElem?_getD]
            rw [← eps] 
            rw [e3, List.length_append, List.length_singleton]
            omega
        have f2 : FM m m2 := fun a i ha => by rw [w3.1 a i (by omega) (by omega) (by omega)]; exact f9 a i ha
        refine ok m2 Rs' 2 (nI j') (n9.kr w3) (w3.ty t9) w2 (g9.kr w3) f2 (by rw [w3.1 _ _ (by decide) (by decide) (by decide)]; exact x8) (by rw [w3.1 _ _ (by decide) (by decide) (by decide)]; exact x9) (by rw [w3.1 _ _ (by decide) (by decide) (by decide)]; exact x3) (by rw [w3.1 _ _ (by decide) (by decide) (by decide)]; exact x22) (by rw [w3.1 _ _ (by decide) (by decide) (by decide)]; exact x21) pre len.1 len.2 ⟨64, j3, by decide, Or.inr (Or.inl ⟨rfl, rfl, j', w4, ?_, rfl⟩)⟩ ?_ w7
        · rw [w5]
          exact ewd.symm
        · rw [j3]; decide
    · rw [if_neg z1] at hq a2
      obtain ⟨rfl, hm⟩ := hq
      refine ⟨rfl, ?_⟩
      by_cases z5 : (tokN f n (ps f n t)).1.1 = 5
      · rw [if_pos z5] at hm
        have ek : m0.1 9 t = 68 := by rw [a2.1]; unfold ckd; rw [if_neg (by omega), if_neg (by omega), if_neg (by omega), if_pos z5]
        have ev : m0.1 11 t = nI (tokN f n (ps f n t)).1.2.1 := by rw [a2.2]; unfold cvl; rw [if_neg (by omega)]
        have bd := tkAt_b (f := f) (n := n) (p := b) (by rw [← et]; exact z5)
        rw [← et] at bd
        subst hm
        refine ⟨fun a i ha => ?_, ?_⟩
        · simp only [bdR, y_si_at]
          rw [if_neg (by omega), if_neg (by omega), if_neg (by omega)]
          exact f9 a i ha
        · rw [if_pos ek, ev, a1]
          refine ⟨((n9.si (by omega)).si (by omega)).si (by omega), by simp [bdR, y_si_at], nI_lt (a := 0) (by omega) (by omega), by simp [bdR, y_si_at], ⟨z, by simp [bdR, y_si_at, x21], h13⟩, ((g9.si (by omega)).si (by omega)).si (by omega), ?_⟩
          have := r9.at0
          simp [bdR, y_si_at, this]
      · rw [if_neg z5] at hm
        have le : b ≤ ps f n (t + 1) := by
          rw [eps]
          by_cases z0 : (tokN f n (ps f n t)).1.1 = 0
          · have := tkAt_0 (f := f) (n := n) (p := b) (by rw [← et]; exact z0)
            rw [← et] at this
            omega
          · have := tkAt_adv (f := f) (n := n) (p := b) (by rw [← et]; exact z0) (by rw [← et]; exact z5)
            rw [← et] at this
            omega
        refine ok M Rs (rkd (tokN f n (ps f n t)).1) (rvl (tokN f n (ps f n t)).1) n9 t9 r9 g9 f9 x8 x9 x3 x22 x21 (List.prefix_refl _) (by omega) (by omega) ?_ ?_ hm
        · by_cases z2 : (tokN f n (ps f n t)).1.1 = 2
          · refine ⟨65, ?_, by decide, Or.inr (Or.inr (Or.inl ⟨rfl, ?_, ?_⟩))⟩
            · show m0.1 9 t = _
              rw [a2.1]; unfold ckd; rw [if_pos z2]; rfl
            · unfold rkd; rw [if_pos z2]
            · show rvl _ = m0.1 11 t
              rw [a2.2]; unfold rvl cvl; rw [if_neg (by omega), if_neg (by omega)]
          · by_cases z3 : (tokN f n (ps f n t)).1.1 = 3
            · refine ⟨66, ?_, by decide, Or.inr (Or.inr (Or.inr (Or.inl ⟨rfl, ?_, ?_⟩)))⟩
              · show m0.1 9 t = _
                rw [a2.1]; unfold ckd; rw [if_neg z2, if_pos z3]; rfl
              · unfold rkd; rw [if_neg z2, if_pos z3]
              · show rvl _ = m0.1 11 t
                rw [a2.2]; unfold rvl cvl; rw [if_neg (by omega), if_neg (by omega)]
            · by_cases z4 : (tokN f n (ps f n t)).1.1 = 4
              · obtain ⟨s, s1, s2⟩ := tkAt_s (f := f) (n := n) (p := b) (by rw [← et]; exact z4)
                rw [← et] at s2
                refine ⟨sK s, ?_, by unfold sK; split <;> omega, Or.inr (Or.inr (Or.inr (Or.inr (Or.inr ⟨s, s1, rfl, ?_, ?_⟩))))⟩
                · show m0.1 9 t = _
                  rw [a2.1]; unfold ckd; rw [if_neg z2, if_neg z3, if_pos z4, s2]
                · unfold rkd; rw [if_neg z2, if_neg z3, if_pos z4]
                · unfold rvl; rw [if_pos z4, s2]
                  congr 1
                  unfold sK
                  split <;> split <;> omega
              · refine ⟨67, ?_, by decide, Or.inr (Or.inr (Or.inr (Or.inr (Or.inl ⟨rfl, ?_⟩))))⟩
                · show m0.1 9 t = _
                  rw [a2.1]; unfold ckd; rw [if_neg z2, if_neg z3, if_neg z4, if_neg z5]; rfl
                · unfold rkd; rw [if_neg z2, if_neg z3, if_neg z4]
        · intro u
          rw [a2.1] at u
          unfold ckd at u
          by_cases z2 : (tokN f n (ps f n t)).1.1 = 2
          · rw [if_pos z2] at u; exact absurd u (by decide)
          · rw [if_neg z2] at u
            by_cases z3 : (tokN f n (ps f n t)).1.1 = 3
            · rw [if_pos z3] at u; exact absurd u (by decide)
            · rw [if_neg z3] at u
              by_cases z4 : (tokN f n (ps f n t)).1.1 = 4
              · rw [if_pos z4] at u
                obtain ⟨s, s1, s2⟩ := tkAt_s (f := f) (n := n) (p := b) (by rw [← et]; exact z4)
                rw [← et] at s2
                rw [s2] at u
                have u2 := (nI_eq (a := sK s) (b := 68) (by unfold sK; split <;> omega) (by decide)).mp u
                unfold sK at u2
                split at u2 <;> omega
              · rw [if_neg z4, if_neg z5] at u; exact absurd u (by decide)
