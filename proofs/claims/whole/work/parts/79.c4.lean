/-! MEASURE: how many steps, as the class finds it: loops -/
def KBv (l i : Nat) (m m' : yM) : Prop := (∀ a x, ¬ a = 45 → ¬ a = 48 → ¬ a = 49 → m'.1 a x = m.1 a x) ∧ (∀ x, ¬ x = 7 → m'.1 45 x = m.1 45 x) ∧ (∀ j, j ≤ l → m'.1 48 j = m.1 48 j ∧ m'.1 49 j = m.1 49 j ∧ m'.2 47 j = m.2 47 j ∧ m'.2 50 j = m.2 50 j ∧ m'.2 51 j = m.2 51 j) ∧ (∀ a, ¬ a = 46 → ¬ a = 47 → ¬ a = 50 → ¬ a = 51 → m'.2 a = m.2 a) ∧ ∀ k, ¬ k = i + 1 → m'.2 46 k = m.2 46 k
theorem c227 (xs : List Int32) (d : Nat) {l i bb : Nat} {n : Int32} {m : yM} (hl : l + 1 ≤ 61) (hi : i + 1 ≤ 3000) (h7 : m.1 45 7 = nI l) : yC (xg xs) (d + 2) 227 [.ref 45, .int (nI i), .int (nI bb), .int n] m (fun r m' => r = none ∧ m'.1 45 7 = nI (l + 1) ∧ m'.1 48 (l + 1) = nI bb ∧ m'.1 49 (l + 1) = n ∧ m'.2 47 (l + 1) = m.2 46 i ∧ m'.2 50 (l + 1) = -1 ∧ m'.2 51 (l + 1) = -1 ∧ KBv l i m m' ∧ m'.2 46 (i + 1) = (if lg_cmp (m.2 46 i) (-1) = 0 then m.2 46 (i + 1) else cmV 1 (m.2 46 (i + 1)))) := by
  have e1 : (if (61 : Int32) < (m.1 45 7 + 1) then (61 : Int32) else (m.1 45 7 + 1)) = nI (l + 1) := by
    rw [h7, nI_1, if_neg]
    intro z
    have := (nI_ltI (a := 61) (by omega) (by omega)).mp z
    omega
  have ci : (nI i).toNatClampNeg = i := nI_clamp (by omega)
  have cl : (nI (l + 1)).toNatClampNeg = l + 1 := nI_clamp (by omega)
  have xl : x_in (nI (l + 1)) 62 = true := x_in_nI (by omega) (by decide)
  have xi : x_in (nI i) 3001 = true := x_in_nI (by omega) (by decide)
  refine w227_0 xs (d + 1) _ _ _ m _ ?_
  rw [e1, ci, cl, nI_1]
  generalize hM : (y_sl (y_sl (y_si (y_si (y_sl (y_si m 45 7 (nI (l + 1))) 47 (l + 1) (m.2 46 i)) 48 (l + 1) (nI bb)) 49 (l + 1) n) 50 (l + 1) (-1)) 51 (l + 1) (-1)) = M
  have f46 : ∀ k, M.2 46 k = m.2 46 k := fun k => by
    rw [← hM, y_sl_at, if_neg (by omega), y_sl_at, if_neg (by omega)]
    show (y_sl (y_si m 45 7 (nI (l + 1))) 47 (l + 1) (m.2 46 i)).2 46 k = _
    rw [y_sl_at, if_neg (by omega)]
    rfl
  have base : M.1 45 7 = nI (l + 1) ∧ M.1 48 (l + 1) = nI bb ∧ M.1 49 (l + 1) = n ∧ M.2 47 (l + 1) = m.2 46 i ∧ M.2 50 (l + 1) = -1 ∧ M.2 51 (l + 1) = -1 ∧ KBv l i m M := by
    have i1 : ∀ a x, M.1 a x = (y_si (y_si (y_si m 45 7 (nI (l + 1))) 48 (l + 1) (nI bb)) 49 (l + 1) n).1 a x := fun a x => by rw [← hM]; rfl
    have i2 : ∀ a x, M.2 a x = (y_sl (y_sl (y_sl m 47 (l + 1) (m.2 46 i)) 50 (l + 1) (-1)) 51 (l + 1) (-1)).2 a x := fun a x => by rw [← hM]; rfl
    refine ⟨?_, ?_, ?_, ?_, ?_, ?_, fun a x x1 x2 x3 => ?_, fun x x1 => ?_, fun j hj => ⟨?_, ?_, ?_, ?_, ?_⟩, fun a x1 x2 x3 x4 => funext fun j => ?_, fun k _ => f46 k⟩
    · rw [i1, y_si_at, if_neg (by omega), y_si_at, if_neg (by omega), y_si_same]
    · rw [i1, y_si_at, if_neg (by omega), y_si_same]
    · rw [i1, y_si_same]
    · rw [i2, y_sl_at, if_neg (by omega), y_sl_at, if_neg (by omega), y_sl_same]
    · rw [i2, y_sl_at, if_neg (by omega), y_sl_same]
    · rw [i2, y_sl_same]
    · rw [i1, y_si_at, if_neg (fun z => x3 z.1), y_si_at, if_neg (fun z => x2 z.1), y_si_at, if_neg (fun z => x1 z.1)]
    · rw [i1, y_si_at, if_neg (by omega), y_si_at, if_neg (by omega), y_si_at, if_neg (by omega)]
    · rw [i1, y_si_at, if_neg (by omega), y_si_at, if_neg (by omega), y_si_at, if_neg (by omega)]
    · rw [i1, y_si_at, if_neg (by omega), y_si_at, if_neg (by omega), y_si_at, if_neg (by omega)]
    · rw [i2, y_sl_at, if_neg (by omega), y_sl_at, if_neg (by omega), y_sl_at, if_neg (by omega)]
    · rw [i2, y_sl_at, if_neg (by omega), y_sl_at, if_neg (by omega), y_sl_at, if_neg (by omega)]
    · rw [i2, y_sl_at, if_neg (by omega), y_sl_at, if_neg (by omega), y_sl_at, if_neg (by omega)]
    · rw [i2, y_sl_at, if_neg (fun z => x4 z.1), y_sl_at, if_neg (fun z => x3 z.1), y_sl_at, if_neg (fun z => x2 z.1)]
  obtain ⟨b1, b2, b3, b4, b5, b6, b7⟩ := base
  refine ⟨xi, xl, xl, xl, xl, xl, xi, fun z => ⟨rfl, b1, b2, b3, b4, b5, b6, b7, by rw [if_pos z]; exact f46 _⟩, fun z => y_cv (c224 xs d M hi 1) (by omega) ⟨rfl, b1, b2, b3, ?_, ?_, ?_, ?_, ?_⟩⟩
  · rw [y_sl_at, if_neg (by omega)]; exact b4
  · rw [y_sl_at, if_neg (by omega)]; exact b5
  · rw [y_sl_at, if_neg (by omega)]; exact b6
  · obtain ⟨c1, c2, c3, c4, c5⟩ := b7
    refine ⟨c1, c2, fun j hj => ?_, fun a x1 x2 x3 x4 => ?_, fun k hk => ?_⟩
    · obtain ⟨y1, y2, y3, y4, y5⟩ := c3 j hj
      refine ⟨y1, y2, ?_, ?_, ?_⟩
      · rw [y_sl_at, if_neg (by omega)]; exact y3
      · rw [y_sl_at, if_neg (by omega)]; exact y4
      · rw [y_sl_at, if_neg (by omega)]; exact y5
    · rw [← c4 a x1 x2 x3 x4]
      exact funext fun j => by rw [y_sl_at, if_neg (fun z => x1 z.1)]
    · rw [y_sl_at, if_neg (fun z => hk z.2)]; exact c5 k hk
  · rw [y_sl_same, if_neg z, f46]
def EBv (l bb : Nat) (m m' : yM) : Prop := (∀ a x, ¬ (a = 45 ∧ x = 7) → m'.1 a x = m.1 a x) ∧ (∀ a, ¬ a = 46 → ¬ a = 51 → m'.2 a = m.2 a) ∧ (∀ k, ¬ k = bb → m'.2 46 k = m.2 46 k) ∧ ∀ j, ¬ j = l → m'.2 51 j = m.2 51 j
theorem EBv.s46 {l bb : Nat} {m m' : yM} (h : EBv l bb m m') (v : Int64) : EBv l bb m (y_sl m' 46 bb v) := ⟨h.1, fun a x y => by rw [← h.2.1 a x y]; exact funext fun j => by rw [y_sl_at, if_neg (fun z => x z.1)], fun k hk => by rw [y_sl_at, if_neg (fun z => hk z.2)]; exact h.2.2.1 k hk, fun j hj => by rw [y_sl_at, if_neg (by omega)]; exact h.2.2.2 j hj⟩
theorem upM_2 (w : Nat → Option Nat) (k : Nat) (a b : Option Nat) : upM (upM w k a) k b = upM w k (omx a b) := by
  funext j
  unfold upM
  by_cases c : j = k
  · rw [if_pos c, if_pos c, if_pos c, omx_a]
  · rw [if_neg c, if_neg c, if_neg c]
theorem c228 (xs : List Int32) (d : Nat) {l bb q n : Nat} {r : o3} {ko le : Option Nat} {w : Nat → Option Nat} {v : Int64} {m : yM} (hl : l + 1 ≤ 61) (hb : bb ≤ q) (hq : q ≤ 3000) (hn : n ≤ 1000000) (h7 : m.1 45 7 = nI (l + 1)) (h47 : AB 1000000000000 (ko.map (· + ofL l)) (m.2 47 (l + 1))) (h48 : m.1 48 (l + 1) = nI bb) (h49 : m.1 49 (l + 1) = nI n) (h50 : ¬ ko = none → AB 1000000000001 (r.2.1.map (· + 1)) (m.2 50 (l + 1))) (h51 : ¬ ko = none → AB 1000000000001 (r.2.2.map (· + 1)) (m.2 51 (l + 1))) (hv : ¬ ko = none → AB 1000000000000 (r.1.map (· + 1)) v) (hw : W46 l bb q w m) (hle : AB 1000000000001 (le.map (· + ofL l)) (m.2 51 l)) : yC (xg xs) (d + 2) 228 [.ref 45, .long v] m (fun u m' => u = none ∧ m'.1 45 7 = nI l ∧ W46 l bb q (upM w bb (ko.bind (lpE r n))) m' ∧ AB 1000000000001 ((omx le (ko.bind (lpL r n))).map (· + ofL l)) (m'.2 51 l) ∧ EBv l bb m m') := by
  have ol := ofL_1 l
  have cl : (nI (l + 1)).toNatClampNeg = l + 1 := nI_clamp (by omega)
  have cl0 : (nI l).toNatClampNeg = l := nI_clamp (by omega)
  have xl : x_in (nI (l + 1)) 62 = true := x_in_nI (by omega) (by decide)
  have xl0 : x_in (nI l) 62 = true := x_in_nI (by omega) (by decide)
  have o1 : (1 : Int64).toInt = 1 := rfl
  have o2 : (2 : Int64).toInt = 2 := rfl
  have e1 : (if (0 : Int32) < (nI (l + 1) - 1) then (nI (l + 1) - 1) else 0) = nI l := by
    have e : nI (l + 1) - 1 = nI l := by
      rw [show (1 : Int32) = nI 1 from rfl, nI_sub (by omega), Nat.add_sub_cancel]
    rw [e]
    by_cases z : l = 0
    · rw [z]; rfl
    · rw [if_pos (show (0 : Int32) < nI l from nI_lt (a := 0) (by omega) (by omega))]
  refine w228_0 xs (d + 1) _ m _ ?_
  rw [h7, cl, e1, h48, h49]
  generalize hM : y_si m 45 7 (nI l) = M
  have m2 : M.2 = m.2 := by rw [← hM]; rfl
  have m7 : M.1 45 7 = nI l := by rw [← hM, y_si_same]
  have mo : ∀ a x, ¬ (a = 45 ∧ x = 7) → M.1 a x = m.1 a x := fun a x z => by rw [← hM, y_si_at, if_neg z]
  have eb : EBv l bb m M := ⟨mo, fun a _ _ => by rw [m2], fun k _ => by rw [m2], fun j _ => by rw [m2]⟩
  have wM : W46 l bb q w M := hw.cg (fun k _ _ => by rw [m2])
  cases hk : ko with
  | none =>
    rw [hk] at h47
    have z := (AB.lt h47).2.mpr rfl
    refine ⟨xl, fun y => absurd z y, fun _ => ⟨rfl, m7, wM.no, ?_, eb⟩⟩
    show AB _ ((omx le none).map _) _
    rw [omx_n, m2]
    exact hle
  | some dd =>
    rw [hk] at h47
    have h47 : AB 1000000000000 (some (dd + ofL l)) (m.2 47 (l + 1)) := h47
    have h50 := h50 (by rw [hk]; intro z; cases z)
    have h51 := h51 (by rw [hk]; intro z; cases z)
    have hv := hv (by rw [hk]; intro z; cases z)
    generalize m.2 47 (l + 1) = kp at *
    have kz : ¬ lg_cmp kp (-1) = 0 := fun z => by have := (AB.lt h47).2.mp z; cases this
    have kp0 := h47.1
    have kp1 := h47.2.1
    show _ ∧ _ ∧ _
    refine ⟨xl, fun _ => ⟨xl, fun nz => ?_, fun nz => ?_⟩, fun y => absurd y kz⟩
    · have n0 : ¬ n = 0 := fun z => nz (by rw [z]; rfl)
      have en : nI n - 1 = nI (n - 1) := by rw [show (1 : Int32) = nI 1 from rfl, nI_sub (by omega)]
      have e64 : (nI (n - 1)).toInt64.toInt = ((n - 1 : Nat) : Int) := i64_nI (by omega)
      -- row 145
      have s145 : ∀ (bf : Nat) (last : Int64) (w' : Nat → Option Nat) (M' : yM), AB 1000001000002000000 (some (dd + ofL l + bf)) last → bf = (match r.1 with | some e => (n - 1) * (e + 2) | none => 0) → W46 l bb q w' M' → M'.1 45 7 = nI l → EBv l bb m M' → M'.2 51 = m.2 51 → w' = upM w bb (lpE r n dd) → yP (xg xs) (d + 2) 228 145 [(0, .ref 45), (3, .int (nI (l + 1))), (4, .long last)] [] M' (fun u m' => u = none ∧ m'.1 45 7 = nI l ∧ W46 l bb q (upM w bb ((some dd).bind (lpE r n))) m' ∧ AB 1000000000001 ((omx le ((some dd).bind (lpL r n))).map (· + ofL l)) (m'.2 51 l) ∧ EBv l bb m m') := by
        intro bf last w' M' hla hbf w2 e7 eb2 e51 ew
        have la0 := hla.1
        have la1 := hla.2.1
        rw [ew] at w2
        refine w228_145 xs (d + 1) _ _ M' _ ?_
        rw [cl, e7, cl0, e51]
        cases h3 : r.2.2 with
        | none =>
          rw [h3] at h51
          refine ⟨xl, fun _ => ⟨rfl, rfl, w2, ?_, eb2⟩, fun z => absurd ((AB.lt h51).2.mpr rfl) z⟩
          have eL : (some dd).bind (lpL r n) = none := by show lpL r n dd = none; unfold lpL; rw [if_neg n0, h3]; rfl
          rw [eL, omx_n]
          exact hle
        | some x =>
          rw [h3] at h51
          have h51' : AB 1000000000001 (some (x + 1)) (m.2 51 (l + 1)) := h51
          have x0 := h51'.1
          have x1 := h51'.2.1
          have hz : ¬ lg_cmp (m.2 51 (l + 1)) (-1) = 0 := fun z => by have := (AB.lt h51').2.mp z; cases this
          have g1 := l_add (x := last) (y := m.2 51 (l + 1)) (by omega) (by omega) (by omega) (by omega)
          have hs := (hla.add h51' g1)
          have eL : (some dd).bind (lpL r n) = some (dd + bf + 1 + x) := by show lpL r n dd = _; unfold lpL; rw [if_neg n0, h3, hbf]; rfl
          refine ⟨xl, fun z => absurd z hz, fun _ => ⟨xl0, xl, xl0, rfl, e7, w2.cg (fun k _ _ => by rw [y_sl_at, if_neg (by omega)]), ?_, eb2.1, fun a y1 y2 => by rw [← eb2.2.1 a y1 y2]; exact funext fun j => by rw [y_sl_at, if_neg (fun z => y2 z.1)], fun k hk => by rw [y_sl_at, if_neg (by omega)]; exact eb2.2.2.1 k hk, fun j hj => by rw [y_sl_at, if_neg (fun z => hj z.2)]; exact eb2.2.2.2 j hj⟩⟩
          rw [y_sl_same, eL, omx_m]
          have hb : AB 1000000000001 (some (dd + bf + 1 + x + ofL l)) (if (1000000000000 : Int64) < (last + m.2 51 (l + 1)) then (1000000000000 : Int64) else (last + m.2 51 (l + 1))) := by
            have ei : (if (1000000000000 : Int64) < (last + m.2 51 (l + 1)) then (1000000000000 : Int64) else (last + m.2 51 (l + 1))).toInt = min (last + m.2 51 (l + 1)).toInt 1000000000000 := by
              have e12 : (1000000000000 : Int64).toInt = 1000000000000 := rfl
              by_cases g : (1000000000000 : Int64) < (last + m.2 51 (l + 1))
              · rw [if_pos g]
                have := Int64.lt_iff_toInt_lt.mp g
                omega
              · rw [if_neg g]
                have : ¬ (1000000000000 : Int64).toInt < (last + m.2 51 (l + 1)).toInt := fun z => g (Int64.lt_iff_toInt_lt.mpr z)
                omega
            rw [show dd + bf + 1 + x + ofL l = dd + ofL l + bf + (x + 1) by omega]
            exact (hs.cap (C := 1000000000000) (by omega) ei).w (by omega)
          exact hle.mx hb (mxV_i _ _)
      -- row 113
      have s113 : ∀ (bf : Nat) (last : Int64) (w' : Nat → Option Nat) (M' : yM), AB 1000001000002000000 (some (dd + ofL l + bf)) last → bf = (match r.1 with | some e => (n - 1) * (e + 2) | none => 0) → W46 l bb q w' M' → M'.1 45 7 = nI l → (∀ a x, ¬ (a = 45 ∧ x = 7) → M'.1 a x = m.1 a x) → EBv l bb m M' → M'.2 50 = m.2 50 → M'.2 51 = m.2 51 → w' = upM w bb (r.1.map (fun e => dd + n * (e + 2) + 1)) → yP (xg xs) (d + 2) 228 113 [(0, .ref 45), (3, .int (nI (l + 1))), (4, .long last)] [] M' (fun u m' => u = none ∧ m'.1 45 7 = nI l ∧ W46 l bb q (upM w bb ((some dd).bind (lpE r n))) m' ∧ AB 1000000000001 ((omx le ((some dd).bind (lpL r n))).map (· + ofL l)) (m'.2 51 l) ∧ EBv l bb m m') := by
        intro bf last w' M' hla hbf w2 e7 em eb2 e50 e51 ew
        have la0 := hla.1
        have la1 := hla.2.1
        refine w228_113 xs (d + 1) _ _ M' _ ?_
        rw [cl, e50, em 48 (l + 1) (by omega), h48]
        cases h2 : r.2.1 with
        | none =>
          rw [h2] at h50
          refine ⟨xl, fun _ => s145 bf last w' M' hla hbf w2 e7 eb2 e51 ?_, fun z => absurd ((AB.lt h50).2.mpr rfl) z⟩
          rw [ew]
          congr 1
          unfold lpE
          rw [if_neg n0, h2]
          exact (omx_n _).symm
        | some x =>
          rw [h2] at h50
          have h50' : AB 1000000000001 (some (x + 1)) (m.2 50 (l + 1)) := h50
          have x0 := h50'.1
          have x1 := h50'.2.1
          have hz : ¬ lg_cmp (m.2 50 (l + 1)) (-1) = 0 := fun z => by have := (AB.lt h50').2.mp z; cases this
          have g1 := l_add (x := last) (y := m.2 50 (l + 1)) (by omega) (by omega) (by omega) (by omega)
          have hs := (hla.add h50' g1)
          rw [show dd + ofL l + bf + (x + 1) = (dd + bf + 1 + x) + ofL l by omega] at hs
          refine ⟨xl, fun z => absurd z hz, fun _ => ⟨xl, xl, y_cv (c224 xs d M' (show bb ≤ 3000 by omega) _) (by omega) ?_⟩⟩
          refine s145 bf last _ _ hla hbf (w2.come (Nat.le_refl _) hb hs) e7 (eb2.s46 _) ?_ ?_
          · rw [← e51]; exact funext fun j => by rw [y_sl_at, if_neg (by omega)]
          · rw [ew, upM_2]
            congr 1
            unfold lpE
            rw [if_neg n0, h2, hbf]
            rfl
      rw [en]
      cases h1 : r.1 with
      | none =>
        rw [h1] at hv
        refine ⟨xl, fun _ => ?_, fun z => absurd ((AB.lt hv).2.mpr rfl) z⟩
        refine s113 0 kp w M (h47.w (by omega)) (by rw [h1]) wM m7 mo eb (by rw [m2]) (by rw [m2]) ?_
        rw [h1]
        funext j
        unfold upM
        show w j = if j = bb then omx (w j) none else w j
        split
        · rw [omx_n]
        · rfl
      | some e =>
        rw [h1] at hv
        have hv' : AB 1000000000000 (some (e + 1)) v := hv
        have v0 := hv'.1
        have v1 := hv'.2.1
        have vz : ¬ lg_cmp v (-1) = 0 := fun z => by have := (AB.lt hv').2.mp z; cases this
        have g1 := l_add (x := v) (y := 1) (by omega) (by omega) (by decide) (by decide)
        have a1 : AB 1000000000001 (some (e + 2)) (v + 1) := hv'.ad 1 (by omega)
        have a10 := a1.1
        have a11 := a1.2.1
        have g2 := l_mul (x := (nI (n - 1)).toInt64) (y := v + 1) (k := n - 1) (by omega) e64 a10 (by omega)
        have mm := a1.mul g2
        have mm0 := mm.1
        have mm1 := mm.2.1
        have nb : (n - 1) * 1000000000001 ≤ 1000000 * 1000000000001 := Nat.mul_le_mul_right _ (by omega)
        have g3 := l_add (x := kp) (y := (nI (n - 1)).toInt64 * (v + 1)) (by omega) (by omega) (by omega) (by omega)
        have la := (h47.add mm g3).w (M' := 1000001000002000000) (by omega)
        have la0 := la.1
        have la1 := la.2.1
        have g4 := l_add (x := kp + (nI (n - 1)).toInt64 * (v + 1)) (y := v) (by omega) (by omega) (by omega) (by omega)
        have t1 := la.add hv' g4
        have t10 := t1.1
        have t11 := t1.2.1
        have g5 := l_add (x := kp + (nI (n - 1)).toInt64 * (v + 1) + v) (y := 2) (by omega) (by omega) (by decide) (by decide)
        have t2 := t1.ad 2 (z := kp + (nI (n - 1)).toInt64 * (v + 1) + v + 2) (by omega)
        have ee : dd + ofL l + (n - 1) * (e + 2) + (e + 1) + 2 = dd + n * (e + 2) + 1 + ofL l := by
          obtain ⟨k, rfl⟩ : ∃ k, n = k + 1 := ⟨n - 1, by omega⟩
          rw [Nat.add_sub_cancel, Nat.succ_mul]
          omega
        rw [ee] at t2
        refine ⟨xl, fun z => absurd z vz, fun _ => ⟨xl, xl, y_cv (c224 xs d M (show bb ≤ 3000 by omega) _) (by omega) ?_⟩⟩
        refine s113 _ _ (upM w bb (some (dd + n * (e + 2) + 1))) _ la (by rw [h1]) (wM.come (Nat.le_refl _) hb t2) m7 mo (eb.s46 _) ?_ ?_ (by rw [h1]; rfl)
        · rw [← m2]; exact funext fun j => by rw [y_sl_at, if_neg (by omega)]
        · rw [← m2]; exact funext fun j => by rw [y_sl_at, if_neg (by omega)]
    · have n0 : n = 0 := (nI_eq (b := 0) (by omega) (by omega)).mp nz
      have g1 := l_add (x := kp) (y := 1) (by omega) (by omega) (by decide) (by decide)
      have t1 := h47.ad 1 (z := kp + 1) (by omega)
      rw [show dd + ofL l + 1 = dd + 1 + ofL l by omega] at t1
      refine ⟨xl, xl, y_cv (c224 xs d M (show bb ≤ 3000 by omega) _) (by omega) ⟨rfl, m7, ?_, ?_, eb.s46 _⟩⟩
      · have eE : (some dd).bind (lpE r n) = some (dd + 1) := by show lpE r n dd = _; unfold lpE; rw [if_pos n0]
        rw [eE]
        exact wM.come (Nat.le_refl _) hb t1
      · have eL : (some dd).bind (lpL r n) = none := by show lpL r n dd = none; unfold lpL; rw [if_pos n0]
        rw [eL, omx_n, y_sl_at, if_neg (by omega), m2]
        exact hle
