/-! THE RULES' INVARIANTS: what stays known of nodes looked at -/
def gdV (σ : RS) (j : Nat) (k : Int32) : Prop := ∃ v, σ.2.2.2.1 j = nI v ∧ vOk σ v ∧ frm σ v = k
def gdC (F : List ND) (σ : RS) (j : Nat) : Prop := (∃ q, q < 10 ∧ σ.2.2.2.1 j = nI q ∧ nI (kids F j).length = xar_5.getD q 0) ∨ ∃ b, b + 1 < σ.1.length ∧ σ.2.2.2.1 j = nI (b + 10) ∧ (σ.1.getD b dBK).1 = 1
def P15 (F : List ND) (A : List Nat) (i : Nat) (s : SU) : Prop := ∀ j, j < F.length → j < i → j ∉ A → (kK F j = 6 → ¬ xNm F j → gdV s.1 j 8) ∧ (kK F j = 32 → gdV s.1 j 9) ∧ (kK F j = 13 → gdV s.1 j 10) ∧ (kK F j = 19 → gdV s.1 j 8) ∧ (s.1.2.2.1 j = 34 → gdC F s.1 j)
theorem gdV.x {σ σ' : RS} {j : Nat} {k : Int32} (h : gdV σ j k) (hv : σ'.2.2.2.1 j = σ.2.2.2.1 j) (ho : ∀ v y, (σ.2.1.getD v dVK).2 = some y → v < σ'.2.1.length ∧ σ'.2.1.getD v dVK = σ.2.1.getD v dVK ∧ σ'.2.2.1 y.2.1 = σ.2.2.1 y.2.1) : gdV σ' j k := by
  obtain ⟨v, v1, v2, v3⟩ := h
  obtain ⟨w1, y, w2⟩ := (vOk_i σ v).mp v2
  obtain ⟨o1, o2, o3⟩ := ho v y w2
  refine ⟨v, by rw [hv]; exact v1, (vOk_i σ' v).mpr ⟨o1, y, by rw [o2]; exact w2⟩, ?_⟩
  have e : vD σ' v = vD σ v := by unfold vD; rw [o2]
  unfold frm at v3 ⊢
  rw [e, vD_s w2, o3, ← vD_s w2]
  exact v3
theorem P15.b {m0 : yM} {T : Nat} {F : List ND} {N : Nat} {A : List Nat} {n : Nat} {s : SU} {σ : RS} (hp : PA m0 T F N A n) (h : P15 F A n s) (e : jb s n = .inl σ) : P15 F (A ++ [n]) (n + 1) (σ, s.2) := by
  unfold jb at e
  intro j j1 j2 j3
  obtain ⟨j2, j3⟩ := mem_b j2 j3
  obtain ⟨a1, a2, a3, a4, a5⟩ := h j j1 j2 j3
  split at e
  · unfold lkBeg at e
    split at e
    · cases e
    split at e
    · cases e
    · have e' := inl_e e
      obtain ⟨y1, y2, y3, y4, y5, y6, y7⟩ := beg_y s.1 n (s.1.2.2.1 n) (s.1.2.2.2.1 n)
      have yv := beg_v s.1 n (s.1.2.2.1 n) (s.1.2.2.2.1 n)
      have ya := beg_at s.1 n (s.1.2.2.1 n) (s.1.2.2.2.1 n)
      rw [← e'] at y1 y6 y7 yv ya
      have ho : ∀ v y, (s.1.2.1.getD v dVK).2 = some y → v < σ.2.1.length ∧ σ.2.1.getD v dVK = s.1.2.1.getD v dVK ∧ σ.2.2.1 y.2.1 = s.1.2.2.1 y.2.1 := by
        intro v y hy
        have lt := V_lt hy
        refine ⟨by omega, ?_, by rw [y6]⟩
        rw [ya, if_neg (fun z => by omega)]
      have hv : σ.2.2.2.1 j = s.1.2.2.2.1 j := by rw [y6]
      refine ⟨fun k x => (a1 k x).x hv ho, fun k => (a2 k).x hv ho, fun k => (a3 k).x hv ho, fun k => (a4 k).x hv ho, fun k => ?_⟩
      have k : σ.2.2.1 j = 34 := k
      rw [y6] at k
      rcases a5 k with ⟨q, q1, q2, q3⟩ | ⟨b, b1, b2, b3⟩
      · exact Or.inl ⟨q, q1, hv.trans q2, q3⟩
      · exact Or.inr ⟨b, by show b + 1 < σ.1.length; omega, hv.trans b2, by show (σ.1.getD b dBK).1 = 1; rw [y7 b (by omega)]; exact b3⟩
  · rw [inl_e e]
    exact ⟨a1, a2, a3, a4, a5⟩
theorem P15.l {m0 : yM} {T : Nat} {F : List ND} (hF : HF m0 T F) {N : Nat} {A : List Nat} {n : Nat} {s : SU} {σ' : RS} (hp : PA m0 T F N A n) (h : PAll F (A ++ [n]) (n + szF F n) s) (hq : P15 F (A ++ [n]) (n + szF F n) s) (e : lk F A s.1 s.2 n = .inl σ') : P15 F A (n + szF F n) (σ', nU s.1 s.2 n) := by
  have hb := h.1
  obtain ⟨h1, h2, h3, h3b, h4, h5, h6, h7, h8, h9, h10, h11⟩ := h.1
  have hn := hp.lt.1
  have k37 := hp.1.k37
  have at' := hp.1.at
  have nA : n ∈ A ++ [n] := List.mem_append_right _ List.mem_cons_self
  obtain ⟨kn, vn, tn⟩ := h1.1 n hn (Or.inr nA)
  obtain ⟨n1, n2, n3, n4⟩ := hb.nb hF at'.1
  obtain ⟨e1, e2, e3, e4, by'⟩ := lk_ef e (fun z => by
    rw [kn] at z
    exact (h1.2.2.2.2 n nA ((ch37e _ k37).mp z)).2.1)
  have ho : ∀ v y, (s.1.2.1.getD v dVK).2 = some y → v < σ'.2.1.length ∧ σ'.2.1.getD v dVK = s.1.2.1.getD v dVK ∧ σ'.2.2.1 y.2.1 = s.1.2.2.1 y.2.1 := by
    intro v y hy
    have lt := V_lt hy
    have le := (lk_ev e).1
    exact ⟨by omega, lk_st hF.2.1 hF.2.2.1 hp h1 h3 e hy, (P5.t hp h1 h5 e hy).1⟩
  intro j j1 j2 j3
  by_cases ne : j = n
  · subst ne
    have B0 : ¬ kK F j = 0 → 0 < s.1.1.length := fun k => PB.b0 hF.2.2.1 hp h1 k
    have fin : ∀ {x k : Int32}, allD s.1 → ¬ fVar s.1 x = -1 → 0 < s.1.1.length → frm s.1 (fVar s.1 x).toNatClampNeg = k → σ'.2.2.2.1 j = fVar s.1 x → gdV σ' j k := by
      intro x k hD hx B0 hf hv
      obtain ⟨v, w, v1, v2, v3, v4, v5, v6, v7, -⟩ := hb.var hF at'.1 B0 hD hx
      rw [v3] at hf
      obtain ⟨o1, o2, o3⟩ := ho v w v6
      refine ⟨v, by rw [hv]; exact v2, (vOk_i σ' v).mpr ⟨o1, w, by rw [o2]; exact v6⟩, ?_⟩
      have ev : vD σ' v = vD s.1 v := by unfold vD; rw [o2]
      unfold frm at hf ⊢
      rw [ev, v7, o3, ← v7]
      exact hf
    refine ⟨fun k nx => ?_, fun k => ?_, fun k => ?_, fun k => ?_, fun k => ?_⟩
    · rw [lk_6n (by rw [kn, k]; rfl)] at e
      unfold lkName at e
      rcases hp.up with ⟨y1, y2⟩ | ⟨B, p, M, u1, u2, u3, u4, u5⟩
      · rw [y2, hF.2.2.1] at k; omega
      · have pm : p ∈ A := by rw [u1]; exact List.mem_append_right _ List.mem_cons_self
        have kp := (h1.1 p (hp.lt.2 p pm) (Or.inr (List.mem_append_left _ pm))).1
        have p37 := u5.1.k37
        have k5 : ¬ kK F p = 5 := fun z => nx ⟨k, p, hp.lt.2 p pm, u3, Or.inl z⟩
        have k33 : ¬ kK F p = 33 := fun z => nx ⟨k, p, hp.lt.2 p pm, u3, Or.inr z⟩
        have q33 : ¬ nI (kK F p) = 33 := fun z => k33 ((nI_eq (b := 33) (by omega) (by omega)).mp z)
        have q5 : ¬ nI (kK F p) = 5 := fun z => k5 ((nI_eq (b := 5) (by omega) (by omega)).mp z)
        rw [u2, kp, if_neg q33, if_neg q5] at e
        obtain ⟨l1, l2, l3⟩ := lkVar_i e
        have hD := allD_of h3 (hp.no5 (by omega) (fun _ => by rw [u2]; exact k5) (by omega) (j + szF F j))
        refine fin hD l1 (B0 (by omega)) l2 ?_
        rw [l3]
        show upI _ j _ j = _
        rw [upI_n]
    · rw [lk_x (by rw [kn, k]; decide), lkX_32 (by rw [kn, k]; rfl)] at e
      obtain ⟨l1, l2, l3⟩ := lkElem_i e
      have hD := allD_of h3 (hp.no5 (by omega) (by omega) (by omega) (j + szF F j))
      refine fin hD l1 (B0 (by omega)) l2 ?_
      rw [l3]
      show upI _ j _ j = _
      rw [upI_n]
    · rw [lk_s (by rw [kn, k]; decide), lkS_13 (by rw [kn, k]; rfl)] at e
      unfold lkInv at e
      have hD := allD_of h3 (hp.no5 (by omega) (by omega) (by omega) (j + szF F j))
      by_cases c : fVar s.1 (s.1.2.2.2.1 j) = -1
      · rw [if_pos c] at e; cases e
      rw [if_neg c] at e
      split at e
      · rename_i g
        refine fin hD c (B0 (by omega)) g ?_
        rw [inl_e e]
        show upI _ j _ j = _
        rw [upI_n]
      · cases e
    · rw [lk_s (by rw [kn, k]; decide), lkS_k.2.2.2.2.1 (by rw [kn, k]; rfl)] at e
      unfold lkFor at e
      have hD := allD_of h3 (hp.no5 (by omega) (by omega) (by omega) (j + szF F j))
      by_cases c : fVar s.1 (s.1.2.2.2.1 j) = -1
      · rw [if_pos c] at e; cases e
      rw [if_neg c] at e
      by_cases c2 : ¬ frm s.1 (fVar s.1 (s.1.2.2.2.1 j)).toNatClampNeg = 8
      · rw [if_pos c2] at e; cases e
      rw [if_neg c2] at e
      split at e
      · cases e
      split at e
      · cases e
      · unfold lkForP at e
        split at e
        · cases e
        · refine fin hD c (B0 (by omega)) (Decidable.byContradiction c2) ?_
          rw [inl_e e]
          show upI _ j _ j = _
          rw [upI_n]
    · have k : σ'.2.2.1 j = 34 := k
      have kj : kK F j = 34 := by
        rcases e2 with y | ⟨y, -⟩
        · rw [y, kn] at k
          exact (nI_eq (b := 34) (by omega) (by omega)).mp k
        · rw [y] at k
          exact absurd k (by decide)
      rw [lk_x (by rw [kn, kj]; decide), lkX_34 (by rw [kn, kj]; rfl)] at e
      unfold lkCall at e
      by_cases c : fBlk s.1 1 50 60 10 (s.1.2.2.2.1 j) = -1
      · rw [if_pos c] at e; cases e
      rw [if_neg c] at e
      by_cases c2 : ¬ nI (kids F j).length = wantC s.1 (fBlk s.1 1 50 60 10 (s.1.2.2.2.1 j))
      · rw [if_pos c2] at e; cases e
      rw [if_neg c2] at e
      have c2 := Decidable.byContradiction c2
      split at e
      · cases e
      split at e
      · exfalso
        rw [inl_e e] at k
        have k : upI _ j 30 j = 34 := k
        rw [upI_n] at k
        exact absurd k (by decide)
      · have eb : σ'.1 = s.1.1 := by rw [inl_e e]; rfl
        have ev : σ'.2.2.2.1 j = fBlk s.1 1 50 60 10 (s.1.2.2.2.1 j) := by
          rw [inl_e e]
          show upI _ j _ j = _
          rw [upI_n]
        show gdC F σ' j
        unfold gdC
        rw [ev, eb]
        rcases fBlk_1 (by omega) c with ⟨q, q1, q2⟩ | ⟨b, b1, b2, b3⟩
        · left
          refine ⟨q, q1, q2, ?_⟩
          rw [q2] at c2
          unfold wantC at c2
          rw [if_neg (fun z => by have := (nI_leI (a := 10) (by omega) (by omega)).mp z; omega), nI_clamp (by omega)] at c2
          exact c2
        · exact Or.inr ⟨b, b1, b2, b3⟩
  · obtain ⟨a1, a2, a3, a4, a5⟩ := hq j j1 j2 (mem_l j3 ne)
    have hv : σ'.2.2.2.1 j = s.1.2.2.2.1 j := (e1 j ne).2
    refine ⟨fun k x => (a1 k x).x hv ho, fun k => (a2 k).x hv ho, fun k => (a3 k).x hv ho, fun k => (a4 k).x hv ho, fun k => ?_⟩
    have k : σ'.2.2.1 j = 34 := k
    rw [(e1 j ne).1] at k
    rcases a5 k with ⟨q, q1, q2, q3⟩ | ⟨b, b1, b2, b3⟩
    · exact Or.inl ⟨q, q1, hv.trans q2, q3⟩
    · exact Or.inr ⟨b, by show b + 1 < σ'.1.length; rw [by'.1]; exact b1, hv.trans b2, by show (σ'.1.getD b dBK).1 = 1; rw [(by'.2 b).1]; exact b3⟩
/-- all that is known behind the rules -/
theorem jn_all {m0 : yM} {T N : Nat} {F : List ND} (hF : HF m0 T F) (hW : TW m0 T F N 0) (hz : szF F 0 = F.length) {s : SU} (e : jn F N [] 0 (sg0 F) = .inl s) : PAll F [] F.length s ∧ P15 F [] F.length s := by
  have := jn_ind (P := fun A i s => PAll F A i s ∧ P15 F A i s) (m0 := m0) (T := T) (F := F) (fun N A n s σ hp h e => ⟨PAll.b hF hp h.1 e, P15.b hp h.2 e⟩) (fun N A n s σ' hp h e => ⟨PAll.l hF hp h.1 e, P15.l hF hp h.1 h.2 e⟩) N [] 0 (sg0 F) ⟨hW, rfl, fun p hp => by cases hp⟩ ⟨PAll.z (fun j hj => hF.1.k hj), fun j _ hj => absurd hj (Nat.not_lt_zero _)⟩ s e
  rw [hz, Nat.zero_add] at this
  exact this
