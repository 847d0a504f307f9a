/-! THE RULES' INVARIANTS: names, ports and calls of a unit -/
theorem ptR_i (σ : RS) (nm w : Int32) : ∀ k v, ptR σ nm w k v = -1 ∨ ∃ u, v ≤ u ∧ u < v + k ∧ (vD σ u).1 = w ∧ ptR σ nm w k v = 4 * (vD σ u).2.2.2 + tyV σ u
  | 0, v => Or.inl rfl
  | k + 1, v => by
    have es : ptR σ nm w (k + 1) v = if (σ.2.1.getD v dVK).1 = nm ∧ (vD σ v).1 = w then 4 * (vD σ v).2.2.2 + tyV σ v else ptR σ nm w k (v + 1) := rfl
    rw [es]
    by_cases q : (σ.2.1.getD v dVK).1 = nm ∧ (vD σ v).1 = w
    · rw [if_pos q]
      exact Or.inr ⟨v, Nat.le_refl _, by omega, q.2, rfl⟩
    · rw [if_neg q]
      rcases ptR_i σ nm w k (v + 1) with y | ⟨u, u1, u2, u3, u4⟩
      · exact Or.inl y
      · exact Or.inr ⟨u, by omega, by omega, u3, u4⟩
def x4o : Bool := (List.range 32).all (fun r => decide ((4 * xar_4.getD (5 * r + 3) 0 + xar_4.getD (5 * r + 4) 0) >>> ((2 : Int32) &&& 31) = nI (xar_4.getD (5 * r + 3) 0).toNatClampNeg) && decide ((xar_4.getD (5 * r + 3) 0).toNatClampNeg < (xar_2.getD (xar_4.getD (5 * r) 0).toNatClampNeg 0).toNatClampNeg))
theorem x4o_t : x4o = true := by decide +kernel
/-- a port lies in its instance -/
theorem prt_in {m0 : yM} {T : Nat} {F : List ND} (hF : HF m0 T F) {A : List Nat} {i : Nat} {s : SU} (hq : PB F A i s) (hi : i ≤ F.length) (h26 : P26 s) (hD : allD s.1) {v : Nat} (vo : vOk s.1 v) (hf : frm s.1 v = 10) {nm w : Int32} (hw : w = 1 ∨ w = 2) (h : ¬ prt s.1 (s.1.2.2.2.1 (vD s.1 v).2.1) nm w = -1) : ∃ o, prt s.1 (s.1.2.2.2.1 (vD s.1 v).2.1) nm w >>> ((2 : Int32) &&& 31) = nI o ∧ o < vZ s.1 v ∧ o ≤ 37052 := by
  have hP := (hq.pv hF).1
  obtain ⟨n1, n2, n3, n4⟩ := hq.nb hF hi
  obtain ⟨k, ek, hk⟩ := (hP.1 v vo).2.2.2.2 hf
  have ez : vZ s.1 v = (if 9 ≤ nI k then cB s.1 (nI k - 9).toNatClampNeg else xar_2.getD (nI k).toNatClampNeg 0).toNatClampNeg := by
    show (szT s.1 (vD s.1 v).2.1).toNatClampNeg = _
    unfold szT
    have hf : s.1.2.2.1 (vD s.1 v).2.1 = 10 := hf
    rw [hf, if_neg (by decide), if_neg (by decide), ek]
    rfl
  rw [ek] at h ⊢
  unfold prt at h ⊢
  rcases hk with q | ⟨q1, q2, q3⟩
  · have n9 : ¬ (9 : Int32) ≤ nI k := fun z => by
      have := (nI_leI (a := 9) (by omega) (by omega)).mp z
      omega
    rw [if_neg n9] at h ez ⊢
    obtain ⟨r, r1, r2, r3⟩ := (spR_c (nI k) nm w 32 0).resolve_left h
    rw [Nat.zero_add] at r2 r3
    rw [r3]
    have t := x4o_t
    unfold x4o at t
    have t := List.all_eq_true.mp t r (List.mem_range.mpr r1)
    rw [Bool.and_eq_true] at t
    obtain ⟨t1, t2⟩ := t
    have t1 := of_decide_eq_true t1
    have t2 := of_decide_eq_true t2
    rw [r2.1] at t2
    refine ⟨_, t1, by rw [ez]; exact t2, ?_⟩
    have : ∀ k, k < 9 → (xar_2.getD (nI k).toNatClampNeg 0).toNatClampNeg ≤ 6 := by decide
    have := this k q
    omega
  · have y9 : (9 : Int32) ≤ nI k := nI_le (a := 9) q1 (by omega)
    have e9 : (nI k - 9).toNatClampNeg = k - 9 := by
      rw [show (9 : Int32) = nI 9 from rfl, nI_sub q1, nI_clamp (by omega)]
    rw [if_pos y9, e9] at h ez ⊢
    obtain ⟨u, u1, u2, u3, u4⟩ := (ptR_i s.1 nm w _ _).resolve_left h
    have el := n3 (k - 9) q2
    have uo := hD u (by omega)
    obtain ⟨-, y, uy⟩ := (vOk_i s.1 u).mp uo
    obtain ⟨c, z, d, g1, g2, g3, g4, g5, -⟩ := h26 (k - 9) u y q2 u1 (by omega) uy
    have ev : vD s.1 u = y := vD_s uy
    have f8 : frm s.1 u = 8 := (hP.1 u uo).2.1 (fun w0 => by rw [u3] at w0; rcases hw with rfl | rfl <;> exact absurd w0 (by decide))
    obtain ⟨t, t1, t2⟩ := ty3_n ((hP.1 u uo).2.2.1 (Or.inl f8))
    have z1 : z = 1 := by
      unfold szT at g2
      unfold frm at f8
      rw [ev] at f8
      rw [if_pos f8] at g2
      have g2 : nI 1 = nI z := g2
      rcases Nat.lt_or_ge z (2 ^ 30) with w1 | w1
      · exact ((nI_eq (by omega) (by omega)).mp g2).symm
      · omega
    refine ⟨c, ?_, ?_, by omega⟩
    · rw [u4, ev, g1, t2, nI_4]
      exact (shr2 (by omega) t1).1
    · rw [ez, g3, nI_clamp (by omega)]
      omega
/-- a variable of a block -/
def vIn (σ : RS) (b v : Nat) : Prop := (σ.1.getD b dBK).2.2.2.2 ≤ v ∧ v < endV σ b ∧ vOk σ v
/-- a cell of a variable -/
def vCl (σ : RS) (v : Nat) (c : Int32) : Prop := ∃ x, c = nI x ∧ x ≤ 400000 ∧ vC σ v ≤ x ∧ x < vC σ v + vZ σ v
/-- what is known of a node that was looked at in block b -/
def c31 (F : List ND) (σ : RS) (j b : Nat) : Prop := ((kK F j = 6 ∧ ¬ xNm F j) ∨ kK F j = 32 ∨ kK F j = 19 ∨ kK F j = 13 → ∃ v, σ.2.2.2.1 j = nI v ∧ vIn σ b v ∧ (kK F j = 13 → ∀ c, c ∈ kids F j → vCl σ v (σ.2.2.2.1 c))) ∧ (kK F j = 33 → ∃ v, vIn σ b v ∧ vCl σ v (σ.2.2.2.1 j)) ∧ (σ.2.2.1 j = 34 → (∃ q, q < 10 ∧ σ.2.2.2.1 j = nI q) ∨ ∃ g, g + 1 < σ.1.length ∧ σ.2.2.2.1 j = nI (g + 10) ∧ (kids F j).length = cnN σ (endV σ g - (σ.1.getD g dBK).2.2.2.2) (σ.1.getD g dBK).2.2.2.2)
/-- what a step leaves as it was -/
def KPs (s s' : SU) : Prop := (∀ b, b < s.1.1.length → b < s'.1.1.length ∧ (s'.1.1.getD b dBK).2.2.2.2 = (s.1.1.getD b dBK).2.2.2.2 ∧ nB s' b = nB s b ∧ (∀ v, v < endV s.1 b → v < endV s'.1 b)) ∧ (∀ b, b + 1 < s.1.1.length → endV s'.1 b = endV s.1 b ∧ ∀ v, v < endV s.1 b → vD s'.1 v = vD s.1 v) ∧ ∀ v y, (s.1.2.1.getD v dVK).2 = some y → v < s'.1.2.1.length ∧ s'.1.2.1.getD v dVK = s.1.2.1.getD v dVK ∧ szT s'.1 y.2.1 = szT s.1 y.2.1
theorem KPs.v {s s' : SU} (h : KPs s s') {b v : Nat} (hb : b < s.1.1.length) (hv : vIn s.1 b v) : vIn s'.1 b v ∧ vD s'.1 v = vD s.1 v ∧ vZ s'.1 v = vZ s.1 v := by
  obtain ⟨v1, v2, v3⟩ := hv
  obtain ⟨-, y, vy⟩ := (vOk_i s.1 v).mp v3
  obtain ⟨a1, a2, a3, a4⟩ := h.1 b hb
  obtain ⟨c1, c2, c3⟩ := h.2.2 v y vy
  have ev : vD s'.1 v = vD s.1 v := by unfold vD; rw [c2]
  refine ⟨⟨by rw [a2]; exact v1, a4 v v2, (vOk_i s'.1 v).mpr ⟨c1, y, by rw [c2]; exact vy⟩⟩, ev, ?_⟩
  show (szT s'.1 (vD s'.1 v).2.1).toNatClampNeg = (szT s.1 (vD s.1 v).2.1).toNatClampNeg
  rw [ev, vD_s vy, c3]
theorem cnN_x {σ σ' : RS} : ∀ (k v : Nat), (∀ u, v ≤ u → u < v + k → vD σ' u = vD σ u) → cnN σ' k v = cnN σ k v
  | 0, v, _ => rfl
  | k + 1, v, h => by
    rw [cnN_s, cnN_s, h v (Nat.le_refl _) (by omega), cnN_x k (v + 1) (fun u h1 h2 => h u (by omega) (by omega))]
theorem c31.k {F : List ND} {s s' : SU} {j b : Nat} (h : c31 F s.1 j b) (k : KPs s s') (hb : b < s.1.1.length) (hv : ∀ x, x = j ∨ x ∈ kids F j → s'.1.2.2.2.1 x = s.1.2.2.2.1 x) (hk : s'.1.2.2.1 j = 34 → s.1.2.2.1 j = 34) : c31 F s'.1 j b := by
  obtain ⟨h1, h2, h3⟩ := h
  have cl : ∀ {v : Nat} {c : Int32}, vIn s.1 b v → vCl s.1 v c → vCl s'.1 v c := by
    intro v c hi ⟨x, x1, x2, x3, x4⟩
    obtain ⟨-, e1, e2⟩ := k.v hb hi
    have ec : vC s'.1 v = vC s.1 v := by show ((vD s'.1 v).2.2.2).toNatClampNeg = _; rw [e1]
    exact ⟨x, x1, x2, by rw [ec]; exact x3, by rw [ec, e2]; exact x4⟩
  refine ⟨fun z => ?_, fun z => ?_, fun z => ?_⟩
  · obtain ⟨v, v1, v2, v3⟩ := h1 z
    refine ⟨v, by rw [hv j (Or.inl rfl)]; exact v1, (k.v hb v2).1, fun k13 c hc => ?_⟩
    rw [hv c (Or.inr hc)]
    exact cl v2 (v3 k13 c hc)
  · obtain ⟨v, v2, v3⟩ := h2 z
    refine ⟨v, (k.v hb v2).1, ?_⟩
    rw [hv j (Or.inl rfl)]
    exact cl v2 v3
  · rw [hv j (Or.inl rfl)]
    rcases h3 (hk z) with w | ⟨g, g1, g2, g3⟩
    · exact Or.inl w
    · have g' := k.1 g (by omega)
      have g1' := k.1 (g + 1) g1
      obtain ⟨q1, q2⟩ := k.2.1 g g1
      refine Or.inr ⟨g, g1'.1, g2, ?_⟩
      rw [g3, q1, g'.2.1]
      refine (cnN_x _ _ (fun u h1 h2 => q2 u (by omega))).symm
def P31 (F : List ND) (A : List Nat) (i : Nat) (s : SU) : Prop := ∀ j, j < F.length → j < i → j ∉ A → ∀ b, b < s.1.1.length → nB s b ≤ j → j < nB s b + szF F (nB s b) → c31 F s.1 j b
/-- a block's begin -/
theorem KPs_b {m0 : yM} {T : Nat} {F : List ND} (hF : HF m0 T F) {N : Nat} {A : List Nat} {n : Nat} {s : SU} {σ : RS} (hp : PA m0 T F N A n) (hq : PB F A n s) (h27 : P27 F A n s) (e : jb s n = .inl σ) : KPs s (σ, s.2) ∧ σ.2.2 = s.1.2.2 ∧ ∀ b, b < σ.1.length → b < s.1.1.length ∨ nB (σ, s.2) b = n := by
  have h2 := hq.2.1
  have at' := hp.1.at
  obtain ⟨n1, n2, n3, n4⟩ := hq.nb hF (by omega)
  unfold jb at e
  by_cases q : bkN (s.1.2.2.1 n)
  · rw [if_pos q] at e
    unfold lkBeg at e
    split at e
    · cases e
    split at e
    · cases e
    · have e' := inl_e e
      obtain ⟨y1, y2, y3, y4, y5, y6, y7⟩ := beg_y s.1 n (s.1.2.2.1 n) (s.1.2.2.2.1 n)
      have yv := beg_v s.1 n (s.1.2.2.1 n) (s.1.2.2.2.1 n)
      have ya := beg_at s.1 n (s.1.2.2.1 n) (s.1.2.2.2.1 n)
      rw [← e'] at y1 y3 y5 y6 y7 yv ya
      have k5 : (σ.1.getD s.1.1.length dBK).2.2.2.2 = s.1.2.1.length := by
        unfold curB at y5
        rw [y1, Nat.add_sub_cancel] at y5
        exact y5
      have en : ∀ x, x < s.1.1.length → endV σ x = endV s.1 x := by
        intro x hx
        unfold endV
        rw [y1]
        by_cases z : x + 1 < s.1.1.length
        · rw [if_pos (by omega), if_pos z, y7 _ z]
        · rw [if_pos (by omega), if_neg z, show x + 1 = s.1.1.length by omega, k5]
      have old : ∀ u, u < s.1.2.1.length → σ.2.1.getD u dVK = s.1.2.1.getD u dVK := by
        intro u hu
        rw [ya, if_neg (fun z => by omega)]
      refine ⟨⟨fun b hb => ⟨by show b < σ.1.length; omega, by show (σ.1.getD b dBK).2.2.2.2 = _; rw [y7 b hb], by show (σ.1.getD b dBK).2.1 = _; rw [y7 b hb], fun v hv => by show v < endV σ b; rw [en b hb]; exact hv⟩, fun b hb => ⟨en b (by omega), fun v hv => ?_⟩, fun v y hy => ?_⟩, y6, fun b hb => ?_⟩
      · have := n3 b (by omega)
        show vD σ v = _
        unfold vD
        rw [old v (by omega)]
      · have lt := V_lt hy
        refine ⟨by show v < σ.2.1.length; omega, old v lt, ?_⟩
        exact szT_st (tyO_of hF hq (by omega) h27 hy) (by show σ.2.2.1 _ = _; rw [y6]) (by show σ.2.2.2.1 _ = _; rw [y6]) (fun x hx => by show (σ.1.getD x dBK).2.2.2.1 = _; rw [y7 x (by omega)]; rfl)
      · by_cases c : b < s.1.1.length
        · exact Or.inl c
        · right
          unfold curB at y3
          rw [show b = σ.1.length - 1 by omega]
          exact y3
  · rw [if_neg q] at e
    have es : (σ, s.2) = s := by rw [inl_e e]
    have e1 : σ = s.1 := by rw [← es]
    rw [es, e1]
    exact ⟨⟨fun b hb => ⟨hb, rfl, rfl, fun v hv => hv⟩, fun b hb => ⟨rfl, fun v hv => rfl⟩, fun v y hy => ⟨V_lt hy, rfl, rfl⟩⟩, rfl, fun b hb => Or.inl hb⟩
theorem P31.b {m0 : yM} {T : Nat} {F : List ND} (hF : HF m0 T F) {N : Nat} {A : List Nat} {n : Nat} {s : SU} {σ : RS} (hp : PA m0 T F N A n) (hq : PB F A n s) (h27 : P27 F A n s) (h : P31 F A n s) (e : jb s n = .inl σ) : P31 F (A ++ [n]) (n + 1) (σ, s.2) := by
  obtain ⟨k, e2, e3⟩ := KPs_b hF hp hq h27 e
  intro j j1 j2 j3 b hb hb1 hb2
  obtain ⟨j2, j3⟩ := mem_b j2 j3
  rcases e3 b hb with c | c
  · obtain ⟨-, -, en, -⟩ := k.1 b c
    rw [en] at hb1 hb2
    exact (h j j1 j2 j3 b c hb1 hb2).k k c (fun x _ => by show σ.2.2.2.1 x = _; rw [e2]) (fun z => by have z : σ.2.2.1 j = 34 := z; rw [e2] at z; exact z)
  · rw [c] at hb1
    omega
/-- cells of blocks before the last stay -/
theorem lk_cO {m0 : yM} {T : Nat} {F : List ND} (hF : HF m0 T F) {N : Nat} {A : List Nat} {n : Nat} {s : SU} {σ' : RS} (hp : PA m0 T F N A n) (hq : PAll F (A ++ [n]) (n + szF F n) s) (e : lk F A s.1 s.2 n = .inl σ') : ∀ x, x + 1 < s.1.1.length → cB σ' x = cB s.1 x := by
  obtain ⟨h1, h2, h3, h3b, h4, h5, h6, h7, h8, h9, h10, h11⟩ := hq.1
  have hK := hF.2.1
  have h0 := hF.2.2.1
  have hn := hp.lt.1
  have k37 := hp.1.k37
  have nA : n ∈ A ++ [n] := List.mem_append_right _ List.mem_cons_self
  obtain ⟨kn, vn, tn⟩ := h1.1 n hn (Or.inr nA)
  intro x hx
  by_cases k1 : bkN (s.1.2.2.1 n)
  · have kb : kK F n = 1 ∨ kK F n = 2 ∨ kK F n = 3 := by rw [kn] at k1; exact (ch37e _ k37).mp k1
    obtain ⟨B0, eB, -⟩ := h1.2.2.2.2 n nA kb
    unfold lk at e
    have k0 : ¬ s.1.2.2.1 n = 0 := by rcases k1 with k | k | k <;> rw [k] <;> decide
    rw [if_neg k0, if_pos k1] at e
    unfold lkBlk at e
    split at e
    · cases e
    · have e' := inl_e e
      obtain ⟨c, c1, c2⟩ := h9.2.1 n nA kb
      obtain ⟨-, o⟩ := ownC_c (show s.1.1.length - 1 < s.1.1.length by omega) c1 (s.1.1.getD (s.1.1.length - 1) dBK).2.1 (szF F (s.1.1.getD (s.1.1.length - 1) dBK).2.1)
      rw [e']
      exact o x (by omega)
  by_cases k5 : s.1.2.2.1 n = 5
  · have kk : kK F n = 5 := by rw [kn] at k5; exact (nI_eq (b := 5) (by omega) (by omega)).mp k5
    obtain ⟨l1, l2, l3⟩ := lk_5 e k5
    rw [l1]
    unfold dcS
    exact dsL_o _ _ _ _ _ _ _ (by omega) x (by omega)
  by_cases k6 : s.1.2.2.1 n = 6 ∧ s.1.2.2.1 (fPar A) = 5
  · obtain ⟨l1, -⟩ := lk_6 e k6.1 k6.2
    rw [l1]
    rfl
  · have lo := lk_lo e k1 k5 k6
    unfold cB
    rw [lo.1]
/-- a look -/
theorem KPs_l {m0 : yM} {T : Nat} {F : List ND} (hF : HF m0 T F) {N : Nat} {A : List Nat} {n : Nat} {s : SU} {σ' : RS} (hp : PA m0 T F N A n) (hq : PAll F (A ++ [n]) (n + szF F n) s) (h27 : P27 F (A ++ [n]) (n + szF F n) s) (e : lk F A s.1 s.2 n = .inl σ') : KPs s (σ', nU s.1 s.2 n) := by
  obtain ⟨h1, h2, h3, h3b, h4, h5, h6, h7, h8, h9, h10, h11⟩ := hq.1
  have hn := hp.lt.1
  have k37 := hp.1.k37
  have at' := hp.1.at
  have nA : n ∈ A ++ [n] := List.mem_append_right _ List.mem_cons_self
  obtain ⟨kn, vn, tn⟩ := h1.1 n hn (Or.inr nA)
  have by' := (lk_ef e (fun z => by
    rw [kn] at z
    exact (h1.2.2.2.2 n nA ((ch37e _ k37).mp z)).2.1)).2.2.2.2
  have le := (lk_ev e).1
  have st : ∀ {v y}, (s.1.2.1.getD v dVK).2 = some y → σ'.2.1.getD v dVK = s.1.2.1.getD v dVK := fun hy => lk_st hF.2.1 hF.2.2.1 hp h1 h3 e hy
  have en : ∀ b, b + 1 < s.1.1.length → endV σ' b = endV s.1 b := by
    intro b hb
    unfold endV
    rw [by'.1, if_pos hb, if_pos hb, (by'.2 _).2.2.2]
  refine ⟨fun b hb => ⟨by show b < σ'.1.length; rw [by'.1]; exact hb, (by'.2 b).2.2.2, (by'.2 b).2.1, fun v hv => ?_⟩, fun b hb => ⟨en b hb, fun v hv => ?_⟩, fun v y hy => ⟨?_, st hy, ?_⟩⟩
  · show v < endV σ' b
    by_cases c : b + 1 < s.1.1.length
    · rw [en b c]
      exact hv
    · unfold endV at hv ⊢
      rw [if_neg c] at hv
      rw [by'.1, if_neg c]
      omega
  · have B0 : 0 < s.1.1.length := by omega
    have fb := h3b B0
    have fm := h2.fm (b := b + 1) (s.1.1.length - 1) (by omega) (by omega)
    have fb : (s.1.1.getD (s.1.1.length - 1) dBK).2.2.2.2 + qN F (A ++ [n]) (n + szF F n) ≤ s.1.2.1.length := fb
    unfold endV at hv
    rw [if_pos hb] at hv
    obtain ⟨-, y, hy⟩ := (vOk_i s.1 v).mp (h3.2.1 v (by omega))
    show vD σ' v = _
    unfold vD
    rw [st hy]
  · have := V_lt hy
    show v < σ'.2.1.length
    omega
  · obtain ⟨t1, t2, -⟩ := P5.t hp h1 h5 e hy
    exact szT_st (tyO_of hF hq.1 at'.1 h27 hy) t1 t2 (lk_cO hF hp hq e)
