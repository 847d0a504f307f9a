/-! THE WRITER: rungs of the class, whole -/
def LF (m m' : yM) : Prop := (∀ a i, a ≠ 42 → a ≠ 43 → a ≠ 44 → m'.1 a i = m.1 a i) ∧ (∀ i, i ≠ 5 → i ≠ 6 → m'.1 42 i = m.1 42 i) ∧ m'.2 = m.2
theorem LF.re (m : yM) : LF m m := ⟨fun _ _ _ _ _ => rfl, fun _ _ _ => rfl, rfl⟩
theorem LF.tr {m m1 m2 : yM} (h : LF m m1) (h2 : LF m1 m2) : LF m m2 := ⟨fun a i x y z => by rw [h2.1 a i x y z, h.1 a i x y z], fun i x y => by rw [h2.2.1 i x y, h.2.1 i x y], h2.2.2.trans h.2.2⟩
theorem LF.s5 (m : yM) (x : Int32) : LF m (y_si m 42 5 x) := ⟨fun a i z _ _ => by rw [y_si_at, if_neg (by omega)], fun i z _ => by rw [y_si_at, if_neg (by omega)], rfl⟩
theorem LF.s6 (m : yM) (x : Int32) : LF m (y_si m 42 6 x) := ⟨fun a i z _ _ => by rw [y_si_at, if_neg (by omega)], fun i _ z => by rw [y_si_at, if_neg (by omega)], rfl⟩
theorem LF.s43 (m : yM) (j : Nat) (x : Int32) : LF m (y_si m 43 j x) := ⟨fun a i _ z _ => by rw [y_si_at, if_neg (by omega)], fun i _ _ => by rw [y_si_at, if_neg (by omega)], rfl⟩
theorem LF.s44 (m : yM) (j : Nat) (x : Int32) : LF m (y_si m 44 j x) := ⟨fun a i _ _ z => by rw [y_si_at, if_neg (by omega)], fun i _ _ => by rw [y_si_at, if_neg (by omega)], rfl⟩
theorem CR.lf {F : List ND} {σ : RS} {m m' : yM} (h : CR F σ m) (g : LF m m') : CR F σ m' := h.ek (fun a i z => g.1 a i (by omega) (by omega) (by omega))
theorem nar0 : vp_nar .boolean (0 : Int32) = 0 := by decide
theorem nar1 : ¬ vp_nar .boolean (1 : Int32) = 0 := by decide
theorem c211 (xs : List Int32) (d : Nat) {F : List ND} {σ : RS} {m : yM} (h : CR F σ m) {n cols : Nat} (hn : n < F.length) (hne : 0 < (kids F n).length) (hr : RG F σ (kids F n) cols) (til : tile F (kids F n) (n + 1) (n + szF F n)) (htr : ∀ r, r ∈ kids F n → 0 < szF F r ∧ r + szF F r ≤ n + szF F n ∧ tile F (kids F r) (r + 1) (r + szF F r) ∧ ∀ x, x ∈ kids F r → x < F.length ∧ x < r + szF F r ∧ (σ.2.2.1 x = 29 ↔ kK F x = 29)) : yC (xg xs) (d + 1) 211 [.ref 42, .int (nI n)] m (fun r m' => r = none ∧ LG F (kids F n) cols m' ∧ LF m m') := by
  obtain ⟨R12, c0, c12, hrow, hcl⟩ := hr
  have hf := h.f
  have tn := h.t hn
  have xi : x_in (nI n) 16401 = true := x_in_nI (by omega) (by decide)
  have en : (nI n).toNatClampNeg = n := nI_clamp (by omega)
  have lp : ∀ (L : List Nat) (k i : Nat) (m1 : yM), (kids F n).drop k = L → k + L.length = (kids F n).length → tile F L i (n + szF F n) → LF m m1 → m1.1 42 5 = nI k → (0 < k → m1.1 42 6 = nI cols) → (∀ row, row < k → ∀ c, c < cols → m1.1 43 (row * 12 + c) = nI (clR F (kids F n) row (c + 1)) ∧ (m1.1 44 (row * 12 + c) = 0 ↔ ln F ((kids F n).getD row 0) (c + 1) = false)) → yP (xg xs) (d + 1) 211 14 [(0, .ref 42), (1, .int (nI n)), (2, .int (nI i))] [] m1 (fun r m' => r = none ∧ LG F (kids F n) cols m' ∧ LF m m') := by
    intro L
    induction L with
    | nil =>
      intro k i m1 ed hk ht e1 h5 h6 hg
      have ht : i = n + szF F n := ht
      subst ht
      have hk : k = (kids F n).length := hk
      refine w211_14 xs d _ _ m1 _ ⟨xi, ?_⟩
      rw [en, ((h.lf e1).t hn).2.2.2.2.1]
      refine ⟨fun _ => ⟨rfl, ⟨by rw [h5, hk], h6 (by omega), fun row hrw => hg row (by omega)⟩, e1⟩, fun z => absurd (nI_le (Nat.le_refl _) (by omega)) z⟩
    | cons r L ihL =>
      intro k i m1 ed hk ht e1 h5 h6 hg
      obtain ⟨rfl, ht⟩ := ht
      rw [List.length_cons] at hk
      have hkr : (kids F n)[k]? = some r := by
        have := congrArg (fun l => l[0]?) ed
        simpa using this
      have gk : (kids F n).getD k 0 = r := by rw [List.getD_eq_getElem?_getD, hkr]; rfl
      have e' : (kids F n).drop (k + 1) = L := by
        have := congrArg (List.drop 1) ed
        rw [List.drop_drop] at this
        simpa using this
      have rm := List.mem_of_getElem? hkr
      obtain ⟨r0, r1, rt, rk⟩ := htr r rm
      have rl : r < F.length := by have := hrow k (by omega); rw [gk] at this; exact this.1
      have rc : (cel F r).length = cols := by have := (hrow k (by omega)).2; rw [gk] at this; exact this
      have xr : x_in (nI r) 16401 = true := x_in_nI (by omega) (by decide)
      have er : (nI r).toNatClampNeg = r := nI_clamp (by omega)
      have lp2 : ∀ (K : List Nat) (pre : List Nat) (acc : Nat → Bool) (j i3 : Nat) (m2 : yM), pre.length = j → cel F r = pre ++ celK F K → (∀ l, ln F r l = (acc l || lnS F K j l)) → (∀ l, j < l → acc l = false) → (∀ x, x ∈ K → x ∈ kids F r) → tile F K i3 (r + szF F r) → LF m m2 → m2.1 42 5 = nI k → m2.1 42 6 = nI j → (∀ row, row < k → ∀ c, c < cols → m2.1 43 (row * 12 + c) = nI (clR F (kids F n) row (c + 1)) ∧ (m2.1 44 (row * 12 + c) = 0 ↔ ln F ((kids F n).getD row 0) (c + 1) = false)) → (∀ c, c < j → m2.1 43 (k * 12 + c) = nI (pre.getD c 0) ∧ (m2.1 44 (k * 12 + c) = 0 ↔ acc (c + 1) = false)) → yP (xg xs) (d + 1) 211 45 [(0, .ref 42), (1, .int (nI n)), (2, .int (nI r)), (3, .int (nI i3))] [] m2 (fun r m' => r = none ∧ LG F (kids F n) cols m' ∧ LF m m') := by
        intro K
        induction K with
        | nil =>
          intro pre acc j i3 m2 pl hcel hacc hgt hm ht2 e2 g5 g6 go gn
          have ht2 : i3 = r + szF F r := ht2
          subst ht2
          have e0 : celK F [] = [] := rfl
          rw [e0, List.append_nil] at hcel
          have jc : j = cols := by rw [← pl, ← hcel]; exact rc
          refine w211_45 xs d _ _ _ m2 _ ⟨xr, ?_⟩
          rw [er, ((h.lf e2).t rl).2.2.2.2.1, g5, nI_1]
          refine ⟨fun _ => ⟨xr, ?_⟩, fun z => absurd (nI_le (Nat.le_refl _) (by omega)) z⟩
          refine ihL (k + 1) (r + szF F r) _ e' (by omega) ht (e2.tr (LF.s5 m2 _)) (by rw [y_si_same]) (fun _ => by rw [y_si_at, if_neg (by omega), g6, jc]) (fun row hrw c hc => ?_)
          rw [y_si_at, if_neg (by omega), y_si_at, if_neg (by omega)]
          by_cases q : row = k
          · subst q
            obtain ⟨q1, q2⟩ := gn c (by omega)
            refine ⟨?_, ?_⟩
            · rw [q1]
              unfold clR
              rw [gk, hcel, Nat.add_sub_cancel]
            · have ha := hacc (c + 1)
              have l0 : lnS F [] j (c + 1) = false := rfl
              rw [l0, Bool.or_false] at ha
              rw [gk, ha]
              exact q2
          · exact go row (by omega) c hc
        | cons x K ihK =>
          intro pre acc j i3 m2 pl hcel hacc hgt hm ht2 e2 g5 g6 go gn
          obtain ⟨rfl, ht2⟩ := ht2
          obtain ⟨x1, x2, x3⟩ := rk x (hm x List.mem_cons_self)
          have xx : x_in (nI x) 16401 = true := x_in_nI (by omega) (by decide)
          have ex : (nI x).toNatClampNeg = x := nI_clamp (by omega)
          have cr2 := h.lf e2
          have hm' : ∀ y, y ∈ K → y ∈ kids F r := fun y hy => hm y (List.mem_cons_of_mem _ hy)
          have jle : j ≤ cols := by
            have := congrArg List.length hcel
            rw [rc, List.length_append, pl] at this
            omega
          refine w211_45 xs d _ _ _ m2 _ ⟨xr, ?_⟩
          rw [er, (cr2.t rl).2.2.2.2.1, ex, (cr2.t x1).1]
          refine ⟨fun z => ?_, fun _ => ⟨xx, fun z => ?_, fun z => ?_⟩⟩
          · have := (nI_leI (by omega) (by omega)).mp z
            omega
          · have kx := x3.mp z
            have ec : celK F (x :: K) = celK F K := by unfold celK; rw [List.filter_cons_of_neg (by simpa using kx)]
            have ha' : ∀ l, ln F r l = ((acc l || decide (j = l)) || lnS F K j l) := by
              intro l
              rw [hacc l]
              have : lnS F (x :: K) j l = (decide (j = l) || lnS F K j l) := by
                conv => lhs; unfold lnS
                rw [if_pos kx]
              rw [this, Bool.or_assoc]
            have hgt' : ∀ l, j < l → (acc l || decide (j = l)) = false := by
              intro l hl
              rw [hgt l hl, Bool.false_or, decide_eq_false (by omega)]
            have nxt : ∀ m3, LF m m3 → m3.1 42 5 = nI k → m3.1 42 6 = nI j → (∀ row, row < k → ∀ c, c < cols → m3.1 43 (row * 12 + c) = nI (clR F (kids F n) row (c + 1)) ∧ (m3.1 44 (row * 12 + c) = 0 ↔ ln F ((kids F n).getD row 0) (c + 1) = false)) → (∀ c, c < j → m3.1 43 (k * 12 + c) = nI (pre.getD c 0) ∧ (m3.1 44 (k * 12 + c) = 0 ↔ (acc (c + 1) || decide (j = c + 1)) = false)) → yP (xg xs) (d + 1) 211 157 [(0, .ref 42), (1, .int (nI n)), (2, .int (nI r)), (3, .int (nI x))] [] m3 (fun r m' => r = none ∧ LG F (kids F n) cols m' ∧ LF m m') := by
              intro m3 e3 f5 f6 fo fn
              refine w211_157 xs d _ _ _ m3 _ ⟨xx, ?_⟩
              rw [ex, ((h.lf e3).t x1).2.2.2.2.1]
              exact ihK pre (fun l => acc l || decide (j = l)) j (x + szF F x) m3 pl (by rw [hcel, ec]) ha' hgt' hm' ht2 e3 f5 f6 fo fn
            refine w211_130 xs d _ _ _ m2 _ ?_
            rw [g5, g6]
            refine ⟨fun y => nxt m2 e2 g5 g6 go (fun c hc => ?_), fun y => ?_⟩
            · have := (nI_leI (b := 0) (by omega) (by omega)).mp y
              omega
            · obtain ⟨b, rfl⟩ : ∃ b, j = b + 1 := by
                cases j with
                | zero => exact absurd (by decide) y
                | succ b => exact ⟨b, rfl⟩
              have ib : nI k * 12 + nI (b + 1) - 1 = nI (k * 12 + b) := gI2 k (by omega) b (by omega)
              have cb : (nI (k * 12 + b)).toNatClampNeg = k * 12 + b := nI_clamp (by omega)
              rw [ib, cb]
              refine ⟨x_in_nI (by omega) (by decide), nxt _ (e2.tr (LF.s44 m2 _ _)) (by rw [y_si_at, if_neg (by omega)]; exact g5) (by rw [y_si_at, if_neg (by omega)]; exact g6) (fun row hrw c hc => ?_) (fun c hc => ?_)⟩
              · rw [y_si_at, if_neg (by omega), y_si_at, if_neg (by omega)]
                exact go row hrw c hc
              · obtain ⟨q1, q2⟩ := gn c hc
                refine ⟨by rw [y_si_at, if_neg (by omega)]; exact q1, ?_⟩
                by_cases cb' : c = b
                · rw [cb', y_si_same, decide_eq_true rfl, Bool.or_true]
                  exact ⟨fun w => absurd w nar1, fun w => by cases w⟩
                · have n1 : ¬ (44 = 44 ∧ k * 12 + c = k * 12 + b) := by omega
                  have n2 : ¬ b + 1 = c + 1 := by omega
                  rw [y_si_at, if_neg (by omega), decide_eq_false n2, Bool.or_false]
                  exact q2
          · have kx : ¬ kK F x = 29 := fun w => z (x3.mpr w)
            have ec : celK F (x :: K) = x :: celK F K := by unfold celK; rw [List.filter_cons_of_pos (by simpa using kx)]
            have jlt : j < cols := by
              have := congrArg List.length hcel
              rw [rc, List.length_append, pl, ec, List.length_cons] at this
              omega
            have ib : nI k * 12 + nI j = nI (k * 12 + j) := gI1 k (by omega) j (by omega)
            have cb : (nI (k * 12 + j)).toNatClampNeg = k * 12 + j := nI_clamp (by omega)
            have xk : x_in (nI (k * 12 + j)) 144 = true := x_in_nI (by omega) (by decide)
            rw [g5, g6, ib, cb]
            refine ⟨fun y => ?_, fun y => ⟨xk, xk, ?_⟩⟩
            · have := (nI_leI (a := 12) (by omega) (by omega)).mp y
              omega
            · refine w211_157 xs d _ _ _ _ _ ⟨xx, ?_⟩
              have e3 : LF m (y_si (y_si (y_si m2 43 (k * 12 + j) (nI x)) 44 (k * 12 + j) (vp_nar .boolean 0)) 42 6 (nI j + 1)) := ((e2.tr (LF.s43 m2 _ _)).tr (LF.s44 _ _ _)).tr (LF.s6 _ _)
              rw [ex, ((h.lf e3).t x1).2.2.2.2.1]
              refine ihK (pre ++ [x]) acc (j + 1) (x + szF F x) _ (by rw [List.length_append, pl, List.length_singleton]) (by rw [hcel, ec, List.append_assoc]; rfl) (fun l => ?_) (fun l hl => hgt l (by omega)) hm' ht2 e3 ?_ (by rw [y_si_same, nI_1]) (fun row hrw c hc => ?_) (fun c hc => ?_)
              · rw [hacc l]
                have : lnS F (x :: K) j l = lnS F K (j + 1) l := by
                  conv => lhs; unfold lnS
                  rw [if_neg kx]
                rw [this]
              · rw [y_si_at, if_neg (by omega), y_si_at, if_neg (by omega), y_si_at, if_neg (by omega)]; exact g5
              · have o43 : (y_si (y_si (y_si m2 43 (k * 12 + j) (nI x)) 44 (k * 12 + j) (vp_nar .boolean 0)) 42 6 (nI j + 1)).1 43 (row * 12 + c) = m2.1 43 (row * 12 + c) := by rw [y_si_at, if_neg (by omega), y_si_at, if_neg (by omega), y_si_at, if_neg (by omega)]
                have o44 : (y_si (y_si (y_si m2 43 (k * 12 + j) (nI x)) 44 (k * 12 + j) (vp_nar .boolean 0)) 42 6 (nI j + 1)).1 44 (row * 12 + c) = m2.1 44 (row * 12 + c) := by rw [y_si_at, if_neg (by omega), y_si_at, if_neg (by omega), y_si_at, if_neg (by omega)]
                rw [o43, o44]
                exact go row hrw c hc
              · by_cases cj : c = j
                · have o43 : (y_si (y_si (y_si m2 43 (k * 12 + j) (nI x)) 44 (k * 12 + j) (vp_nar .boolean 0)) 42 6 (nI j + 1)).1 43 (k * 12 + c) = nI x := by rw [cj, y_si_at, if_neg (by omega), y_si_at, if_neg (by omega), y_si_same]
                  have o44 : (y_si (y_si (y_si m2 43 (k * 12 + j) (nI x)) 44 (k * 12 + j) (vp_nar .boolean 0)) 42 6 (nI j + 1)).1 44 (k * 12 + c) = vp_nar .boolean 0 := by rw [cj, y_si_at, if_neg (by omega), y_si_same]
                  rw [o43, o44, nar0, hgt (c + 1) (by omega)]
                  refine ⟨?_, fun _ => rfl, fun _ => rfl⟩
                  congr 1
                  rw [List.getD_eq_getElem?_getD, List.getElem?_append_right (by omega), cj, pl, Nat.sub_self]
                  rfl
                · have o43 : (y_si (y_si (y_si m2 43 (k * 12 + j) (nI x)) 44 (k * 12 + j) (vp_nar .boolean 0)) 42 6 (nI j + 1)).1 43 (k * 12 + c) = m2.1 43 (k * 12 + c) := by rw [y_si_at, if_neg (by omega), y_si_at, if_neg (by omega), y_si_at, if_neg (by omega)]
                  have o44 : (y_si (y_si (y_si m2 43 (k * 12 + j) (nI x)) 44 (k * 12 + j) (vp_nar .boolean 0)) 42 6 (nI j + 1)).1 44 (k * 12 + c) = m2.1 44 (k * 12 + c) := by rw [y_si_at, if_neg (by omega), y_si_at, if_neg (by omega), y_si_at, if_neg (by omega)]
                  rw [o43, o44]
                  obtain ⟨q1, q2⟩ := gn c (by omega)
                  refine ⟨?_, q2⟩
                  rw [q1]
                  congr 1
                  rw [List.getD_eq_getElem?_getD, List.getD_eq_getElem?_getD, List.getElem?_append_left (by omega)]
      refine w211_14 xs d _ _ m1 _ ⟨xi, ?_⟩
      rw [en, ((h.lf e1).t hn).2.2.2.2.1, h5]
      refine ⟨fun z => ?_, fun _ => ⟨fun z => ?_, fun _ => ?_⟩⟩
      · have := (nI_leI (by omega) (by omega)).mp z
        omega
      · have := (nI_leI (a := 12) (by omega) (by omega)).mp z
        omega
      · rw [nI_1]
        refine lp2 (kids F r) [] (fun _ => false) 0 (r + 1) _ rfl rfl (fun l => by rw [Bool.false_or]) (fun _ _ => rfl) (fun x hx => hx) rt (e1.tr (LF.s6 m1 _)) (by rw [y_si_at, if_neg (by omega)]; exact h5) (by rw [y_si_same]; rfl) (fun row hrw c hc => ?_) (fun c hc => by omega)
        rw [y_si_at, if_neg (by omega), y_si_at, if_neg (by omega)]
        exact hg row hrw c hc
  refine w211_0 xs d _ m _ ?_
  rw [nI_1]
  exact lp (kids F n) 0 (n + 1) _ rfl (by omega) til ((LF.s5 m _).tr (LF.s6 _ _)) (by rw [y_si_at, if_neg (by omega), y_si_same]; rfl) (fun z => by omega) (fun row hrw => by omega)
