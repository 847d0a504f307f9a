/-! THE RULES' INVARIANTS: earlier units are called, loops end -/
theorem nB_mo {F : List ND} {A : List Nat} {i : Nat} {s : SU} (h : P21 F A i s) {b : Nat} : ∀ k, b + k < s.1.1.length → nB s b ≤ nB s (b + k)
  | 0, _ => Nat.le_refl _
  | k + 1, hk => by
    have a := nB_mo h (b := b) k (by omega)
    have c := h.2.1 (b + k) (by omega)
    have : nB s (b + (k + 1)) = nB s (b + k + 1) := rfl
    omega
/-- a node that is looked at lies in the last block -/
theorem cur_b {m0 : yM} {T : Nat} {F : List ND} (h0 : kK F 0 = 0) {N : Nat} {A : List Nat} {n i : Nat} {s : SU} (hp : PA m0 T F N A n) (h1 : P1 F (A ++ [n]) i s) (h21 : P21 F (A ++ [n]) i s) (k : ¬ kK F n = 0) {b : Nat} (hb : b < s.1.1.length) (h3 : n < nB s b + szF F (nB s b)) : b + 1 = s.1.1.length ∧ nB s b ≤ n := by
  obtain ⟨p, pm, pk⟩ := hp.bk A.length rfl k h0
  obtain ⟨q1, q2, -⟩ := h1.2.2.2.2 p pm pk
  have q2 : nB s (s.1.1.length - 1) = p := q2
  have pn : p ≤ n := by
    rcases List.mem_append.mp pm with w | w
    · have := (hp.2.2 p w).1; omega
    · rw [List.mem_singleton.mp w]; exact Nat.le_refl _
  by_cases c : b + 1 < s.1.1.length
  · have a := h21.2.1 b c
    have e := nB_mo h21 (b := b + 1) (s.1.1.length - 1 - (b + 1)) (by omega)
    rw [show b + 1 + (s.1.1.length - 1 - (b + 1)) = s.1.1.length - 1 by omega] at e
    omega
  · have eb : b = s.1.1.length - 1 := by omega
    refine ⟨by omega, ?_⟩
    rw [eb, q2]
    exact pn
/-- a type of a variable of the last block lies in it -/
def P23 (s : SU) : Prop := 0 < s.1.1.length → ∀ v y, (curB s.1).2.2.2.2 ≤ v → (s.1.2.1.getD v dVK).2 = some y → (curB s.1).2.1 ≤ y.2.1
theorem P23.b {s : SU} {n : Nat} {σ : RS} (h : P23 s) (e : jb s n = .inl σ) : P23 (σ, s.2) := by
  unfold jb at e
  split at e
  · unfold lkBeg at e
    split at e
    · cases e
    split at e
    · cases e
    · have e' := inl_e e
      obtain ⟨y1, y2, y3, y4, y5, y6, y7⟩ := beg_y s.1 n (s.1.2.2.1 n) (s.1.2.2.2.1 n)
      have ya := beg_at s.1 n (s.1.2.2.1 n) (s.1.2.2.2.1 n)
      rw [← e'] at y3 y5 ya
      intro _ v y hv hy
      have hv : (curB σ).2.2.2.2 ≤ v := hv
      have hy : (σ.2.1.getD v dVK).2 = some y := hy
      show (curB σ).2.1 ≤ y.2.1
      rw [y3]
      rw [y5] at hv
      rw [ya] at hy
      by_cases c : s.1.2.2.1 n = 1 ∧ v = s.1.2.1.length
      · rw [if_pos c] at hy
        rw [← Option.some.inj hy]
        show n ≤ n + 1
        omega
      · rw [if_neg c] at hy
        have := V_lt hy
        omega
  · have es : (σ, s.2) = s := by rw [inl_e e]
    rw [es]
    exact h
theorem P23.l {m0 : yM} {T : Nat} {F : List ND} (hF : HF m0 T F) {N : Nat} {A : List Nat} {n : Nat} {s : SU} {σ' : RS} (hp : PA m0 T F N A n) (hq : PAll F (A ++ [n]) (n + szF F n) s) (h : P23 s) (e : lk F A s.1 s.2 n = .inl σ') : P23 (σ', nU s.1 s.2 n) := by
  obtain ⟨h1, h2, h3, h3b, h4, h5, h6, h7, h8, h9, h10, h11⟩ := hq.1
  have hn := hp.lt.1
  have k37 := hp.1.k37
  have hK := hF.2.1
  have h0 := hF.2.2.1
  have nA : n ∈ A ++ [n] := List.mem_append_right _ List.mem_cons_self
  obtain ⟨kn, vn, tn⟩ := h1.1 n hn (Or.inr nA)
  obtain ⟨-, -, -, -, by1, by2⟩ := lk_ef e (fun z => by
    rw [kn] at z
    exact (h1.2.2.2.2 n nA ((ch37e _ k37).mp z)).2.1)
  have cb : (curB σ').2.1 = (curB s.1).2.1 ∧ (curB σ').2.2.2.2 = (curB s.1).2.2.2.2 := by
    unfold curB
    rw [by1]
    exact ⟨(by2 _).2.1, (by2 _).2.2.2⟩
  intro b0 v y hv hy
  have b0 : 0 < σ'.1.length := b0
  rw [by1] at b0
  have hv : (curB σ').2.2.2.2 ≤ v := hv
  have hy : (σ'.2.1.getD v dVK).2 = some y := hy
  show (curB σ').2.1 ≤ y.2.1
  rw [cb.1]
  rw [cb.2] at hv
  by_cases k5 : s.1.2.2.1 n = 5
  · obtain ⟨l1, -, -⟩ := lk_5 e k5
    have kk : kK F n = 5 := by rw [kn] at k5; exact (nI_eq (b := 5) (by omega) (by omega)).mp k5
    have q := qN_5 hK h0 hp h1 kk
    have le := h3.1
    rw [q] at le
    obtain ⟨k, e0, t, d1, d2, d3, d4, d5, d6, d7, d8⟩ := dcl_s hp.1 kk
    obtain ⟨c1, c2, c3⟩ := dcT0_e hK hp.1 h1 d2 d3 d8
    have tg : n < dcT F s.1 n := by
      unfold dcT
      split <;> omega
    rw [l1] at hy
    unfold dcS at hy
    obtain ⟨o1, o2, o3⟩ := dsL_v (dcAt F s.1 n) (dcT F s.1 n) (s.1.2.2.2.1 (fPar A)) (dcIni F s.1 n) (dcT0 F s.1 n - n - 1) (s.1.2.1.length - (dcT0 F s.1 n - n - 1)) s.1 (by omega) v
    by_cases c : s.1.2.1.length - (dcT0 F s.1 n - n - 1) ≤ v ∧ v < s.1.2.1.length - (dcT0 F s.1 n - n - 1) + (dcT0 F s.1 n - n - 1)
    · obtain ⟨x, hx⟩ := o3 c
      rw [hx] at hy
      rw [← Option.some.inj hy]
      show (curB s.1).2.1 ≤ dcT F s.1 n
      obtain ⟨p, pm, pk⟩ := hp.bk A.length rfl (by omega) h0
      have q2 := (h1.2.2.2.2 p pm pk).2.1
      have pn : p ≤ n := by
        rcases List.mem_append.mp pm with w | w
        · have := (hp.2.2 p w).1; omega
        · rw [List.mem_singleton.mp w]; exact Nat.le_refl _
      rw [q2]
      omega
    · rw [o2 c] at hy
      exact h b0 v y hv hy
  · by_cases k6 : s.1.2.2.1 n = 6 ∧ s.1.2.2.1 (fPar A) = 5
    · obtain ⟨l1, -⟩ := lk_6 e k6.1 k6.2
      rw [l1, decl_at] at hy
      split at hy
      · cases hy
      · exact h b0 v y hv hy
    · rw [lk_v e k5 k6] at hy
      exact h b0 v y hv hy
/-- a FOR's numbers -/
theorem k19_p {m0 : yM} {T : Nat} {F : List ND} (hH : HW m0 T F) {N n : Nat} (hW : TW m0 T F N n) (k : kK F n = 19) : cnK (kK F (n + 1)) ∧ cnK (kK F (n + 2)) ∧ (kK F (n + 3) = 11 ∨ cnK (kK F (n + 3))) ∧ n + 3 < F.length := by
  have one : ∀ i, i < F.length → cnK (kK F i) → szF F i = 1 := by
    intro i hi hk
    obtain ⟨M, hM⟩ := hH i hi
    have ok := hM.ok
    have e : (kids F i).map (kK F) = [] := by
      rcases hk with y | y
      · rw [y] at ok; exact ok.2
      · rw [y] at ok; exact ok.2.1
    have := hM.sum
    rw [List.map_eq_nil_iff.mp e] at this
    simp at this
    omega
  have ok := hW.ok
  rw [k] at ok
  obtain ⟨-, a, b, s', ha, hb', hs, eks⟩ := ok
  have kd := hW.kdN
  cases hq : kids F n with
  | nil => rw [hq] at eks; cases eks
  | cons c1 L =>
    cases L with
    | nil => rw [hq] at eks; cases (List.cons.inj eks).2
    | cons c2 L =>
      have e1 := kd.1 c1 (by rw [hq]; rfl)
      have e2 := kd.2 0 c1 c2 (by rw [hq]; rfl) (by rw [hq]; rfl)
      have g1 : c1 ∈ kids F n := by rw [hq]; exact List.mem_cons_self
      have g2 : c2 ∈ kids F n := by rw [hq]; exact List.mem_cons_of_mem _ List.mem_cons_self
      rw [hq] at eks
      have f1 : kK F c1 = a := (List.cons.inj eks).1
      have f2 : kK F c2 = b := (List.cons.inj (List.cons.inj eks).2).1
      have f3 : L.map (kK F) = s' ++ [11] := (List.cons.inj (List.cons.inj eks).2).2
      have l1 := one c1 (hW.kin g1).2.2.2.1 (by rw [f1]; exact ha)
      have l2 := one c2 (hW.kin g2).2.2.2.1 (by rw [f2]; exact hb')
      have E1 : c1 = n + 1 := by omega
      have E2 : c2 = n + 2 := by omega
      cases L with
      | nil => rcases hs with rfl | ⟨x, -, rfl⟩ <;> cases f3
      | cons c3 L =>
        have e3 := kd.2 1 c2 c3 (by rw [hq]; rfl) (by rw [hq]; rfl)
        have g3 : c3 ∈ kids F n := by rw [hq]; simp
        have E3 : c3 = n + 3 := by omega
        have z3 := hW.kin g3
        rw [E1] at f1
        rw [E2] at f2
        refine ⟨by rw [f1]; exact ha, by rw [f2]; exact hb', ?_, by omega⟩
        rw [← E3]
        rcases hs with rfl | ⟨x, hx, rfl⟩
        · exact Or.inl (List.cons.inj f3).1
        · exact Or.inr (by rw [(List.cons.inj f3).1]; exact hx)
def tmF (F : List ND) (j : Nat) : Int64 := tmR (vF F (j + 1)) (vF F (j + 2)) (if kK F (j + 3) = 11 then 1 else vF F (j + 3))
theorem tmF_e {m0 : yM} {T : Nat} {F : List ND} (hF : HF m0 T F) {A : List Nat} {i : Nat} {s : SU} (h1 : P1 F A i s) {N n : Nat} (hW : TW m0 T F N n) (k : kK F n = 19) : tms s.1 n = tmF F n := by
  obtain ⟨a1, a2, a3, a4⟩ := k19_p hF.1 hW k
  have nc : ∀ x, cnK x ∨ x = 11 → ¬ chv x := by
    intro x hx
    rcases hx with (h | h) | h <;> rw [h] <;> decide
  have v1 := h1.2.2.1 (n + 1) (by omega) (nc _ (Or.inl a1))
  have v2 := h1.2.2.1 (n + 2) (by omega) (nc _ (Or.inl a2))
  have v3 := h1.2.2.1 (n + 3) a4 (nc _ (a3.elim Or.inr Or.inl))
  have k3 : s.1.2.2.1 (n + 3) = nI (kK F (n + 3)) := by
    rcases h1.2.1 (n + 3) a4 with w | ⟨w, q⟩
    · exact w
    · exfalso
      rcases a3 with y | y | y <;> omega
  have iff : s.1.2.2.1 (n + 3) = 11 ↔ kK F (n + 3) = 11 := by
    rw [k3]
    exact nI_eq (b := 11) (by have := hF.2.1 (n + 3) a4; omega) (by omega)
  rw [tmR_e, v1, v2]
  unfold tmF stp
  rw [v3]
  congr 1
  by_cases c : kK F (n + 3) = 11
  · rw [if_pos c, if_pos (iff.mpr c)]
  · rw [if_neg c, if_neg (fun z => c (iff.mp z))]
def P24 (F : List ND) (A : List Nat) (i : Nat) : Prop := ∀ j, j < F.length → j < i → j ∉ A → kK F j = 19 → lg_cmp (tmF F j) 1000000 ≤ 0
theorem P24.l {m0 : yM} {T : Nat} {F : List ND} (hF : HF m0 T F) {N : Nat} {A : List Nat} {n : Nat} {s : SU} {σ' : RS} (hp : PA m0 T F N A n) (h : PAll F (A ++ [n]) (n + szF F n) s) (hq : P24 F (A ++ [n]) (n + szF F n)) (e : lk F A s.1 s.2 n = .inl σ') : P24 F A (n + szF F n) := by
  intro j j1 j2 j3 k
  by_cases ne : j = n
  · subst ne
    have h1 := h.1.1
    have nA : j ∈ A ++ [j] := List.mem_append_right _ List.mem_cons_self
    obtain ⟨kn, vn, tn⟩ := h1.1 j j1 (Or.inr nA)
    rw [lk_s (by rw [kn, k]; decide), lkS_k.2.2.2.2.1 (by rw [kn, k]; rfl)] at e
    unfold lkFor at e
    by_cases c : fVar s.1 (s.1.2.2.2.1 j) = -1
    · rw [if_pos c] at e; cases e
    rw [if_neg c] at e
    by_cases c2 : ¬ frm s.1 (fVar s.1 (s.1.2.2.2.1 j)).toNatClampNeg = 8
    · rw [if_pos c2] at e; cases e
    rw [if_neg c2] at e
    split at e
    · cases e
    split at e
    · cases e
    · unfold lkForP at e
      split at e
      · cases e
      · rename_i q
        have q3 : lg_cmp (tms (setV s.1 j (fVar s.1 (s.1.2.2.2.1 j))) j) 1000000 ≤ 0 := Decidable.byContradiction (fun w => q (Or.inr (Or.inr w)))
        have et : tms (setV s.1 j (fVar s.1 (s.1.2.2.2.1 j))) j = tms s.1 j := by
          have o : ∀ x, (setV s.1 j (fVar s.1 (s.1.2.2.2.1 j))).2.2.2.1 (j + (x + 1)) = s.1.2.2.2.1 (j + (x + 1)) := by
            intro x
            show upI _ j _ (j + (x + 1)) = _
            unfold upI
            rw [if_neg (by omega)]
          rw [tmR_e, tmR_e, o 0, o 1]
          unfold stp
          rw [o 2]
          rfl
        rw [et, tmF_e hF h1 hp.1 k] at q3
        exact q3
  · exact hq j j1 j2 (mem_l j3 ne) k
/-- what a node names is earlier than its block -/
def erl (σ : RS) (j b c : Nat) : Prop := (∃ q, q < c ∧ σ.2.2.2.1 j = nI q) ∨ ∃ k, k < b ∧ σ.2.2.2.1 j = nI (k + c)
def P22 (F : List ND) (A : List Nat) (i : Nat) (s : SU) : Prop := ∀ j, j < F.length → j < i → j ∉ A → ∀ b, b < s.1.1.length → nB s b ≤ j → j < nB s b + szF F (nB s b) → (s.1.2.2.1 j = 34 → erl s.1 j b 10) ∧ (kK F j = 10 → erl s.1 j b 9) ∧ (kK F j = 13 → ∃ v, s.1.2.2.2.1 j = nI v ∧ vOk s.1 v ∧ erl s.1 (vD s.1 v).2.1 b 9)
theorem erl.x {σ σ' : RS} {j b c : Nat} (h : erl σ j b c) (e : σ'.2.2.2.1 j = σ.2.2.2.1 j) : erl σ' j b c := by
  unfold erl at h ⊢
  rw [e]
  exact h
theorem P22.b {m0 : yM} {T : Nat} {F : List ND} {N : Nat} {A : List Nat} {n : Nat} {s : SU} {σ : RS} (hp : PA m0 T F N A n) (h : P22 F A n s) (e : jb s n = .inl σ) : P22 F (A ++ [n]) (n + 1) (σ, s.2) := by
  unfold jb at e
  intro j j1 j2 j3 b hb hb1 hb2
  obtain ⟨j2, j3⟩ := mem_b j2 j3
  split at e
  · unfold lkBeg at e
    split at e
    · cases e
    split at e
    · cases e
    · have e' := inl_e e
      obtain ⟨y1, y2, y3, y4, y5, y6, y7⟩ := beg_y s.1 n (s.1.2.2.1 n) (s.1.2.2.2.1 n)
      have yv := beg_v s.1 n (s.1.2.2.1 n) (s.1.2.2.2.1 n)
      have ya := beg_at s.1 n (s.1.2.2.1 n) (s.1.2.2.2.1 n)
      rw [← e'] at y1 y3 y6 y7 yv ya
      have hb : b < σ.1.length := hb
      by_cases c : b < s.1.1.length
      · have en : nB (σ, s.2) b = nB s b := by show (σ.1.getD b dBK).2.1 = _; rw [y7 b c]
        rw [en] at hb1 hb2
        obtain ⟨a1, a2, a3⟩ := h j j1 j2 j3 b c hb1 hb2
        have hv : ∀ x, σ.2.2.2.1 x = s.1.2.2.2.1 x := fun x => by rw [y6]
        refine ⟨fun k => (a1 (by have k : σ.2.2.1 j = 34 := k; rw [y6] at k; exact k)).x (hv j), fun k => (a2 k).x (hv j), fun k => ?_⟩
        obtain ⟨v, v1, v2, v3⟩ := a3 k
        obtain ⟨w1, y, w2⟩ := (vOk_i s.1 v).mp v2
        have o2 : σ.2.1.getD v dVK = s.1.2.1.getD v dVK := by rw [ya, if_neg (fun z => by omega)]
        have ev : vD σ v = vD s.1 v := by unfold vD; rw [o2]
        refine ⟨v, (hv j).trans v1, (vOk_i σ v).mpr ⟨by omega, y, by rw [o2]; exact w2⟩, ?_⟩
        show erl σ (vD σ v).2.1 b 9
        rw [ev]
        exact v3.x (hv _)
      · exfalso
        have eb : b = σ.1.length - 1 := by omega
        have y3 : (σ.1.getD (σ.1.length - 1) dBK).2.1 = n := y3
        have hb1 : (σ.1.getD b dBK).2.1 ≤ j := hb1
        rw [eb, y3] at hb1
        omega
  · have es : (σ, s.2) = s := by rw [inl_e e]
    rw [es] at hb hb1 hb2 ⊢
    exact h j j1 j2 j3 b hb hb1 hb2
theorem P22.l {m0 : yM} {T : Nat} {F : List ND} (hF : HF m0 T F) {N : Nat} {A : List Nat} {n : Nat} {s : SU} {σ' : RS} (hp : PA m0 T F N A n) (h : PAll F (A ++ [n]) (n + szF F n) s) (h15 : P15 F A (n + szF F n) (σ', nU s.1 s.2 n)) (h21 : P21 F (A ++ [n]) (n + szF F n) s) (h23 : P23 s) (hq : P22 F (A ++ [n]) (n + szF F n) s) (e : lk F A s.1 s.2 n = .inl σ') : P22 F A (n + szF F n) (σ', nU s.1 s.2 n) := by
  have hb := h.1
  obtain ⟨h1, h2, h3, h3b, h4, h5, h6, h7, h8, h9, h10, h11⟩ := h.1
  have hn := hp.lt.1
  have k37 := hp.1.k37
  have at' := hp.1.at
  have h0 := hF.2.2.1
  have nA : n ∈ A ++ [n] := List.mem_append_right _ List.mem_cons_self
  obtain ⟨kn, vn, tn⟩ := h1.1 n hn (Or.inr nA)
  obtain ⟨n1, n2, n3, n4⟩ := hb.nb hF at'.1
  obtain ⟨e1, e2, e3, e4, by'⟩ := lk_ef e (fun z => by
    rw [kn] at z
    exact (h1.2.2.2.2 n nA ((ch37e _ k37).mp z)).2.1)
  have ho : ∀ v y, (s.1.2.1.getD v dVK).2 = some y → v < σ'.2.1.length ∧ σ'.2.1.getD v dVK = s.1.2.1.getD v dVK ∧ σ'.2.2.2.1 y.2.1 = s.1.2.2.2.1 y.2.1 := by
    intro v y hy
    have lt := V_lt hy
    have le := (lk_ev e).1
    exact ⟨by omega, lk_st hF.2.1 hF.2.2.1 hp h1 h3 e hy, (P5.t hp h1 h5 e hy).2.1⟩
  have old : ∀ b, nB (σ', nU s.1 s.2 n) b = nB s b := fun b => (by'.2 b).2.1
  have ll : (σ', nU s.1 s.2 n).1.1.length = s.1.1.length := by'.1
  intro j j1 j2 j3 b hbb hb1 hb2
  rw [ll] at hbb
  rw [old] at hb1 hb2
  by_cases ne : j = n
  · subst ne
    have B0 : ¬ kK F j = 0 → 0 < s.1.1.length := fun k => PB.b0 hF.2.2.1 hp h1 k
    refine ⟨fun k => ?_, fun k => ?_, fun k => ?_⟩
    · have k : σ'.2.2.1 j = 34 := k
      have kj : kK F j = 34 := by
        rcases e2 with y | ⟨y, -⟩
        · rw [y, kn] at k
          exact (nI_eq (b := 34) (by omega) (by omega)).mp k
        · rw [y] at k
          exact absurd k (by decide)
      have eb := (cur_b h0 hp h1 h21 (by omega) hbb hb2).1
      rcases (h15 j j1 j2 j3).2.2.2.2 k with ⟨q, q1, q2, -⟩ | ⟨q, q1, q2, -⟩
      · exact Or.inl ⟨q, q1, q2⟩
      · have q1 : q + 1 < σ'.1.length := q1
        rw [by'.1] at q1
        exact Or.inr ⟨q, by omega, q2⟩
    · have eb := (cur_b h0 hp h1 h21 (by omega) hbb hb2).1
      obtain ⟨l1, l2, -⟩ := lk_10 e (by rw [kn, k]; rfl)
      obtain ⟨q, q1, q2⟩ := fBlk_2 (by omega) l2
      have ev : σ'.2.2.2.1 j = nI q := by
        rw [l1]
        show upI _ j _ j = _
        rw [upI_n]
        exact q1
      rcases q2 with w | ⟨w1, w2, -⟩
      · exact Or.inl ⟨q, w, ev⟩
      · exact Or.inr ⟨q - 9, by omega, by rw [ev]; congr 1; omega⟩
    · obtain ⟨eb, ebn⟩ := cur_b h0 hp h1 h21 (by omega) hbb hb2
      have e' := e
      rw [lk_s (by rw [kn, k]; decide), lkS_13 (by rw [kn, k]; rfl)] at e'
      unfold lkInv at e'
      have hD := allD_of h3 (hp.no5 (by omega) (by omega) (by omega) (j + szF F j))
      by_cases c : fVar s.1 (s.1.2.2.2.1 j) = -1
      · rw [if_pos c] at e'; cases e'
      rw [if_neg c] at e'
      split at e'
      · rename_i g
        obtain ⟨v, w, v1, v2, v3, v4, v5, v6, v7, v8, v9, v10, -⟩ := hb.var hF at'.1 (B0 (by omega)) hD c
        obtain ⟨o1, o2, o3⟩ := ho v w v6
        have ev : vD σ' v = w := vD_s (by rw [o2]; exact v6)
        refine ⟨v, ?_, (vOk_i σ' v).mpr ⟨o1, w, by rw [o2]; exact v6⟩, ?_⟩
        · show σ'.2.2.2.1 j = nI v
          rw [inl_e e']
          show upI _ j _ j = _
          rw [upI_n]
          exact v2
        · show erl σ' (vD σ' v).2.1 b 9
          rw [ev]
          have k10 : kK F w.2.1 = 10 := by
            have g : frm s.1 (fVar s.1 (s.1.2.2.2.1 j)).toNatClampNeg = 10 := g
            rw [v3, v10] at g
            exact (nI_eq (b := 10) (by omega) (by omega)).mp g
          have cv : (curB s.1).2.1 = nB s b := by
            unfold curB
            rw [show s.1.1.length - 1 = b by omega]
          have lo := h23 (B0 (by omega)) v w v4 v6
          rw [cv] at lo
          obtain ⟨t1, t2⟩ : w.2.1 + szF F w.2.1 ≤ j + szF F j ∧ w.2.1 ∉ A ++ [j] := by
            rcases (h5 v w v6).2.2.2.2 with y | y
            · omega
            · exact y
          have tin : w.2.1 < nB s b + szF F (nB s b) := by
            have b3 : j + szF F j ≤ nB s b + szF F (nB s b) := by
              obtain ⟨M, hM⟩ := hF.1 (nB s b) (h21.1 b hbb).1
              exact TW.inn M _ hM j hb1 hb2
            have := (hF.1 w.2.1 v8).choose_spec.at.2
            omega
          have tlt : w.2.1 < j + szF F j := by
            have := (hF.1 w.2.1 v8).choose_spec.at.2
            omega
          exact ((hq w.2.1 v8 tlt t2 b hbb lo tin).2.1 k10).x o3
      · cases e'
  · obtain ⟨a1, a2, a3⟩ := hq j j1 j2 (mem_l j3 ne) b hbb hb1 hb2
    have hv : σ'.2.2.2.1 j = s.1.2.2.2.1 j := (e1 j ne).2
    refine ⟨fun k => (a1 (by have k : σ'.2.2.1 j = 34 := k; rw [(e1 j ne).1] at k; exact k)).x hv, fun k => (a2 k).x hv, fun k => ?_⟩
    obtain ⟨v, v1, v2, v3⟩ := a3 k
    obtain ⟨w1, y, w2⟩ := (vOk_i s.1 v).mp v2
    obtain ⟨o1, o2, o3⟩ := ho v y w2
    have ev : vD σ' v = vD s.1 v := by unfold vD; rw [o2]
    refine ⟨v, hv.trans v1, (vOk_i σ' v).mpr ⟨o1, y, by rw [o2]; exact w2⟩, ?_⟩
    show erl σ' (vD σ' v).2.1 b 9
    rw [ev]
    refine v3.x ?_
    rw [vD_s w2]
    exact o3
theorem jn_22 {m0 : yM} {T N : Nat} {F : List ND} (hF : HF m0 T F) (hW : TW m0 T F N 0) (hz : szF F 0 = F.length) {s : SU} (e : jn F N [] 0 (sg0 F) = .inl s) : P22 F [] F.length s ∧ P24 F [] F.length := by
  have := jn_ind (P := fun A i s => PAll F A i s ∧ P15 F A i s ∧ P21 F A i s ∧ P23 s ∧ P22 F A i s ∧ P24 F A i) (m0 := m0) (T := T) (F := F) (fun N A n s σ hp h e => ⟨PAll.b hF hp h.1 e, P15.b hp h.2.1 e, P21.b hF.2.2.1 hp h.1.1.1 h.2.2.1 e, P23.b h.2.2.2.1 e, P22.b hp h.2.2.2.2.1 e, fun j j1 j2 j3 => by obtain ⟨a, b⟩ := mem_b j2 j3; exact h.2.2.2.2.2 j j1 a b⟩) (fun N A n s σ' hp h e => ⟨PAll.l hF hp h.1 e, P15.l hF hp h.1 h.2.1 e, P21.l hp h.1.1.1 h.2.2.1 e, P23.l hF hp h.1 h.2.2.2.1 e, P22.l hF hp h.1 (P15.l hF hp h.1 h.2.1 e) h.2.2.1 h.2.2.2.1 h.2.2.2.2.1 e, P24.l hF hp h.1 h.2.2.2.2.2 e⟩) N [] 0 (sg0 F) ⟨hW, rfl, fun p hp => by cases hp⟩ ⟨PAll.z (fun j hj => hF.1.k hj), fun j _ hj => absurd hj (Nat.not_lt_zero _), ⟨fun b hb => absurd hb (Nat.not_lt_zero _), fun b hb => absurd hb (Nat.not_lt_zero _), fun z => absurd z (Nat.lt_irrefl _)⟩, fun z => absurd z (Nat.lt_irrefl _), fun j _ hj => absurd hj (Nat.not_lt_zero _), fun j _ hj => absurd hj (Nat.not_lt_zero _)⟩ s e
  rw [hz, Nat.zero_add] at this
  exact ⟨this.2.2.2.2.1, this.2.2.2.2.2⟩
