/-! THE RULES' INVARIANTS: names, ports and calls of a unit, a look -/
theorem P31.l {m0 : yM} {T : Nat} {F : List ND} (hF : HF m0 T F) {N : Nat} {A : List Nat} {n : Nat} {s : SU} {σ' : RS} (hp : PA m0 T F N A n) (h : PAll F (A ++ [n]) (n + szF F n) s) (h21 : P21 F (A ++ [n]) (n + szF F n) s) (h27 : P27 F (A ++ [n]) (n + szF F n) s) (h26 : P26 s) (hq : P31 F (A ++ [n]) (n + szF F n) s) (e : lk F A s.1 s.2 n = .inl σ') : P31 F A (n + szF F n) (σ', nU s.1 s.2 n) := by
  have hb := h.1
  have kp := KPs_l hF hp h h27 e
  obtain ⟨h1, h2, h3, h3b, h4, h5, h6, h7, h8, h9, h10, h11⟩ := h.1
  have hn := hp.lt.1
  have k37 := hp.1.k37
  have at' := hp.1.at
  have h0 := hF.2.2.1
  have nA : n ∈ A ++ [n] := List.mem_append_right _ List.mem_cons_self
  obtain ⟨kn, vn, tn⟩ := h1.1 n hn (Or.inr nA)
  obtain ⟨n1, n2, n3, n4⟩ := hb.nb hF at'.1
  obtain ⟨e1, e2, e3, e4, by'⟩ := lk_ef e (fun z => by
    rw [kn] at z
    exact (h1.2.2.2.2 n nA ((ch37e _ k37).mp z)).2.1)
  intro j j1 j2 j3 b hb0 hb1 hb2
  have hbb : b < s.1.1.length := by
    have w : b < σ'.1.length := hb0
    rw [by'.1] at w
    exact w
  rw [(kp.1 b hbb).2.2.1] at hb1 hb2
  by_cases ne : j = n
  rotate_left
  · have j3' := mem_l j3 ne
    refine (hq j j1 j2 j3' b hbb hb1 hb2).k kp hbb (fun x hx => ?_) (fun z => ?_)
    · have nx : ¬ x = n := fun w => by
        rcases hx with y | y
        · exact ne (y.symm.trans w)
        · rw [w] at y
          exact j3 (PA.one hF.1 hp j1 y).1
      exact (e1 x nx).2
    · have z : σ'.2.2.1 j = 34 := z
      rw [(e1 j ne).1] at z
      exact z
  subst ne
  have B0 : ¬ kK F j = 0 → 0 < s.1.1.length := fun k => PB.b0 hF.2.2.1 hp h1 k
  have var : ¬ kK F j = 0 → allD s.1 → ∀ {x : Int32}, ¬ fVar s.1 x = -1 → ∃ v y, fVar s.1 x = nI v ∧ (fVar s.1 x).toNatClampNeg = v ∧ vIn s.1 b v ∧ (s.1.2.1.getD v dVK).2 = some y ∧ v < s.1.2.1.length := by
    intro k hD x hx
    obtain ⟨eb, -⟩ := cur_b h0 hp h1 h21 k hbb hb2
    obtain ⟨v, y, v1, v2, v3, v4, v5, v6, -⟩ := hb.var hF at'.1 (B0 k) hD hx
    refine ⟨v, y, v2, v3, ⟨?_, ?_, v5⟩, v6, v1⟩
    · unfold curB at v4
      rw [show b = s.1.1.length - 1 by omega]
      exact v4
    · unfold endV
      rw [if_neg (by omega)]
      exact v1
  have D6 : kK F j = 13 ∨ kK F j = 19 ∨ kK F j = 32 ∨ kK F j = 33 ∨ kK F j = 34 → allD s.1 := fun k => allD_of h3 (hp.no5 (by omega) (by omega) (by omega) (j + szF F j))
  show c31 F σ' j b
  refine ⟨fun z => ?_, fun k => ?_, fun k => ?_⟩
  · have fin : ¬ kK F j = 0 → allD s.1 → ¬ kK F j = 13 → ∀ {x : Int32}, ¬ fVar s.1 x = -1 → σ'.2.2.2.1 j = fVar s.1 x → ∃ v, σ'.2.2.2.1 j = nI v ∧ vIn σ' b v ∧ (kK F j = 13 → ∀ c, c ∈ kids F j → vCl σ' v (σ'.2.2.2.1 c)) := by
      intro k hD k13 x hx hv
      obtain ⟨v, y, v1, v2, v3, v4, v5⟩ := var k hD hx
      exact ⟨v, by rw [hv]; exact v1, (kp.v hbb v3).1, fun w => absurd w k13⟩
    rcases z with ⟨k, nx⟩ | k | k | k
    · rw [lk_6n (by rw [kn, k]; rfl)] at e
      unfold lkName at e
      rcases hp.up with ⟨y1, y2⟩ | ⟨B, p, M, u1, u2, u3, u4, u5⟩
      · rw [y2, hF.2.2.1] at k; omega
      · have pm : p ∈ A := by rw [u1]; exact List.mem_append_right _ List.mem_cons_self
        have kp' := (h1.1 p (hp.lt.2 p pm) (Or.inr (List.mem_append_left _ pm))).1
        have p37 := u5.1.k37
        have k5 : ¬ kK F p = 5 := fun z => nx ⟨k, p, hp.lt.2 p pm, u3, Or.inl z⟩
        have k33 : ¬ kK F p = 33 := fun z => nx ⟨k, p, hp.lt.2 p pm, u3, Or.inr z⟩
        have q33 : ¬ nI (kK F p) = 33 := fun z => k33 ((nI_eq (b := 33) (by omega) (by omega)).mp z)
        have q5 : ¬ nI (kK F p) = 5 := fun z => k5 ((nI_eq (b := 5) (by omega) (by omega)).mp z)
        rw [u2, kp', if_neg q33, if_neg q5] at e
        obtain ⟨l1, l2, l3⟩ := lkVar_i e
        have hD := allD_of h3 (hp.no5 (by omega) (fun _ => by rw [u2]; exact k5) (by omega) (j + szF F j))
        refine fin (by omega) hD (by omega) l1 ?_
        rw [l3]
        show upI _ j _ j = _
        rw [upI_n]
    · rw [lk_x (by rw [kn, k]; decide), lkX_32 (by rw [kn, k]; rfl)] at e
      obtain ⟨l1, l2, l3⟩ := lkElem_i e
      refine fin (by omega) (D6 (by omega)) (by omega) l1 ?_
      rw [l3]
      show upI _ j _ j = _
      rw [upI_n]
    · rw [lk_s (by rw [kn, k]; decide), lkS_k.2.2.2.2.1 (by rw [kn, k]; rfl)] at e
      unfold lkFor at e
      by_cases c : fVar s.1 (s.1.2.2.2.1 j) = -1
      · rw [if_pos c] at e; cases e
      rw [if_neg c] at e
      by_cases c2 : ¬ frm s.1 (fVar s.1 (s.1.2.2.2.1 j)).toNatClampNeg = 8
      · rw [if_pos c2] at e; cases e
      rw [if_neg c2] at e
      split at e
      · cases e
      split at e
      · cases e
      · unfold lkForP at e
        split at e
        · cases e
        · refine fin (by omega) (D6 (by omega)) (by omega) c ?_
          rw [inl_e e]
          show upI _ j _ j = _
          rw [upI_n]
    · have e' := e
      rw [lk_s (by rw [kn, k]; decide), lkS_13 (by rw [kn, k]; rfl)] at e'
      unfold lkInv at e'
      have hD := D6 (by omega)
      by_cases c : fVar s.1 (s.1.2.2.2.1 j) = -1
      · rw [if_pos c] at e'; cases e'
      rw [if_neg c] at e'
      split at e'
      · rename_i g
        obtain ⟨v, y, v1, v2, v3, v4, v5⟩ := var (by omega) hD c
        have g : frm s.1 (fVar s.1 (s.1.2.2.2.1 j)).toNatClampNeg = 10 := g
        rw [v2] at g
        refine ⟨v, ?_, (kp.v hbb v3).1, fun _ cc hc => ?_⟩
        · rw [inl_e e']
          show upI _ j _ j = _
          rw [upI_n]
          exact v1
        · have zc := hp.1.kin hc
          have nc : ¬ cc = j := by omega
          have cA : cc ∉ A ++ [j] := by
            intro w
            rcases List.mem_append.mp w with y | y
            · have := (hp.2.2 cc y).1
              omega
            · exact nc (List.mem_singleton.mp y)
          rw [vn] at v1
          obtain ⟨p1, p2⟩ := h.2.2.1 j cc nA k hc (by omega) cA v v1 v5 g
          obtain ⟨o, o1, o2, o3⟩ := prt_in hF hb at'.1 h26 hD v3.2.2 g (Or.inl rfl) p1
          obtain ⟨cv, ev, hcv⟩ := h9.2.2.1 v y v4
          obtain ⟨-, e5, e6⟩ := kp.v hbb v3
          have evd : (vD s.1 v).2.2.2 = nI cv := by rw [vD_s v4]; exact ev
          have ec : vC σ' v = cv := by show ((vD σ' v).2.2.2).toNatClampNeg = _; rw [show vD σ' v = vD s.1 v from e5, evd, nI_clamp (by omega)]
          have ez : vZ σ' v = vZ s.1 v := e6
          refine ⟨cv + o, ?_, by omega, by omega, by omega⟩
          rw [(e1 cc nc).2, p2, o1, evd, nI_add]
      · cases e'
  · rw [lk_x (by rw [kn, k]; decide), lkX_33 (by rw [kn, k]; rfl)] at e
    unfold lkOut at e
    have hD := D6 (by omega)
    by_cases c : fVar s.1 (s.1.2.2.2.1 j) = -1
    · rw [if_pos c] at e; cases e
    rw [if_neg c] at e
    obtain ⟨v, y, v1, v2, v3, v4, v5⟩ := var (by omega) hD c
    rw [v2] at e
    by_cases g : frm s.1 v = 10
    rotate_left
    · rw [if_neg g] at e; cases e
    rw [if_pos g] at e
    by_cases p1 : prt s.1 (s.1.2.2.2.1 (vD s.1 v).2.1) (s.1.2.2.2.1 (j + 1)) 2 = -1
    · rw [if_pos p1] at e; cases e
    rw [if_neg p1] at e
    obtain ⟨o, o1, o2, o3⟩ := prt_in hF hb at'.1 h26 hD v3.2.2 g (Or.inr rfl) p1
    obtain ⟨cv, ev, hcv⟩ := h9.2.2.1 v y v4
    obtain ⟨-, e5, e6⟩ := kp.v hbb v3
    have evd : (vD s.1 v).2.2.2 = nI cv := by rw [vD_s v4]; exact ev
    have ec : vC σ' v = cv := by show ((vD σ' v).2.2.2).toNatClampNeg = _; rw [show vD σ' v = vD s.1 v from e5, evd, nI_clamp (by omega)]
    have ez : vZ σ' v = vZ s.1 v := e6
    refine ⟨v, (kp.v hbb v3).1, cv + o, ?_, by omega, by omega, by omega⟩
    rw [inl_e e]
    show upI _ j _ j = _
    rw [upI_n, o1, evd, nI_add]
  · have k : σ'.2.2.1 j = 34 := k
    have kj : kK F j = 34 := by
      rcases e2 with y | ⟨y, -⟩
      · rw [y, kn] at k
        exact (nI_eq (b := 34) (by omega) (by omega)).mp k
      · rw [y] at k
        exact absurd k (by decide)
    rw [lk_x (by rw [kn, kj]; decide), lkX_34 (by rw [kn, kj]; rfl)] at e
    unfold lkCall at e
    by_cases c : fBlk s.1 1 50 60 10 (s.1.2.2.2.1 j) = -1
    · rw [if_pos c] at e; cases e
    rw [if_neg c] at e
    by_cases c2 : ¬ nI (kids F j).length = wantC s.1 (fBlk s.1 1 50 60 10 (s.1.2.2.2.1 j))
    · rw [if_pos c2] at e; cases e
    rw [if_neg c2] at e
    have c2 := Decidable.byContradiction c2
    split at e
    · cases e
    split at e
    · exfalso
      rw [inl_e e] at k
      have k : upI _ j 30 j = 34 := k
      rw [upI_n] at k
      exact absurd k (by decide)
    · have ev : σ'.2.2.2.1 j = fBlk s.1 1 50 60 10 (s.1.2.2.2.1 j) := by
        rw [inl_e e]
        show upI _ j _ j = _
        rw [upI_n]
      rw [ev]
      rcases fBlk_1 (by omega) c with ⟨q, q1, q2⟩ | ⟨g, b1, b2, b3⟩
      · exact Or.inl ⟨q, q1, q2⟩
      · refine Or.inr ⟨g, by rw [by'.1]; exact b1, b2, ?_⟩
        rw [b2] at c2
        unfold wantC at c2
        have e10 : (nI (g + 10) - 10).toNatClampNeg = g := by
          rw [show (10 : Int32) = nI 10 from rfl, nI_sub (by omega), nI_clamp (by omega)]
          omega
        rw [if_pos (show (10 : Int32) ≤ nI (g + 10) from nI_le (a := 10) (by omega) (by omega)), e10] at c2
        unfold nIn at c2
        have e0 : cI s.1 (endV s.1 g - (s.1.1.getD g dBK).2.2.2.2) (s.1.1.getD g dBK).2.2.2.2 0 = nI (0 + cnN s.1 (endV s.1 g - (s.1.1.getD g dBK).2.2.2.2) (s.1.1.getD g dBK).2.2.2.2) := cI_n s.1 _ _ 0
        rw [e0] at c2
        have c1 := cnN_le s.1 (endV s.1 g - (s.1.1.getD g dBK).2.2.2.2) (s.1.1.getD g dBK).2.2.2.2
        have c3 := n3 g (by omega)
        have kl : (kids F j).length ≤ 16400 := Nat.le_trans (kds_len _ _ _ _) (by have := hF.2.2.2.1; omega)
        have c4 := (nI_eq (by omega) (by omega)).mp c2
        obtain ⟨q1, q2⟩ := kp.2.1 g b1
        rw [c4, Nat.zero_add, show endV σ' g = endV s.1 g from q1, show (σ'.1.getD g dBK).2.2.2.2 = (s.1.1.getD g dBK).2.2.2.2 from (kp.1 g (by omega)).2.1]
        exact (cnN_x (σ := s.1) (σ' := σ') _ _ (fun u h1 h2 => q2 u (by omega))).symm
