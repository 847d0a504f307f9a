/-! THE RULES' INVARIANTS: types of expressions, a look further -/
theorem lk_x {F : List ND} {A : List Nat} {σ : RS} {U : Nat → Bool} {n : Nat} (h : σ.2.2.1 n = 30 ∨ σ.2.2.1 n = 31 ∨ σ.2.2.1 n = 32 ∨ σ.2.2.1 n = 33 ∨ σ.2.2.1 n = 34 ∨ σ.2.2.1 n = 35 ∨ σ.2.2.1 n = 36) : lk F A σ U n = lkX F σ n := by
  unfold lk
  generalize σ.2.2.1 n = K at h
  have p : ¬ K = 0 ∧ ¬ (K = 1 ∨ K = 2 ∨ K = 3) ∧ ¬ K = 4 ∧ ¬ K = 5 ∧ ¬ K = 6 ∧ ¬ K = 7 ∧ ¬ K = 9 ∧ ¬ K = 10 ∧ ¬ K = 23 ∧ ¬ K = 25 ∧ ¬ K = 28 ∧ ¬ K = 29 ∧ 23 ≤ K := by
    rcases h with h | h | h | h | h | h | h <;> rw [h] <;> decide
  obtain ⟨p1, p2, p3, p4, p5, p6, p7, p8, p9, p10, p11, p12, p13⟩ := p
  rw [if_neg p1, if_neg p2, if_neg p3, if_neg p4, if_neg p5, if_neg p6, if_neg p7, if_neg p8, if_neg p9, if_neg p10, if_neg p11, if_neg p12, if_pos p13]
theorem lk_s {F : List ND} {A : List Nat} {σ : RS} {U : Nat → Bool} {n : Nat} (h : σ.2.2.1 n = 12 ∨ σ.2.2.1 n = 13 ∨ σ.2.2.1 n = 14 ∨ σ.2.2.1 n = 15 ∨ σ.2.2.1 n = 16 ∨ σ.2.2.1 n = 18 ∨ σ.2.2.1 n = 19 ∨ σ.2.2.1 n = 20) : lk F A σ U n = lkS F A σ n := by
  unfold lk
  generalize σ.2.2.1 n = K at h
  have p : ¬ K = 0 ∧ ¬ (K = 1 ∨ K = 2 ∨ K = 3) ∧ ¬ K = 4 ∧ ¬ K = 5 ∧ ¬ K = 6 ∧ ¬ K = 7 ∧ ¬ K = 9 ∧ ¬ K = 10 ∧ ¬ K = 23 ∧ ¬ K = 25 ∧ ¬ K = 28 ∧ ¬ K = 29 ∧ ¬ 23 ≤ K := by
    rcases h with h | h | h | h | h | h | h | h <;> rw [h] <;> decide
  obtain ⟨p1, p2, p3, p4, p5, p6, p7, p8, p9, p10, p11, p12, p13⟩ := p
  rw [if_neg p1, if_neg p2, if_neg p3, if_neg p4, if_neg p5, if_neg p6, if_neg p7, if_neg p8, if_neg p9, if_neg p10, if_neg p11, if_neg p12, if_neg p13]
theorem lk_6n {F : List ND} {A : List Nat} {σ : RS} {U : Nat → Bool} {n : Nat} (h : σ.2.2.1 n = 6) : lk F A σ U n = lkName σ A n := by
  unfold lk
  rw [h, if_neg (by decide), if_neg (by decide), if_neg (by decide), if_neg (by decide), if_pos rfl]
theorem lkX_32 {F : List ND} {σ : RS} {n : Nat} (h : σ.2.2.1 n = 32) : lkX F σ n = lkElem σ n := by
  unfold lkX; rw [h, if_neg (by decide), if_pos rfl]
theorem lkX_33 {F : List ND} {σ : RS} {n : Nat} (h : σ.2.2.1 n = 33) : lkX F σ n = lkOut σ n := by
  unfold lkX; rw [h, if_neg (by decide), if_neg (by decide), if_pos rfl]
theorem lkX_34 {F : List ND} {σ : RS} {n : Nat} (h : σ.2.2.1 n = 34) : lkX F σ n = lkCall F σ n := by
  unfold lkX; rw [h, if_neg (by decide), if_neg (by decide), if_neg (by decide), if_pos rfl]
theorem lkX_35 {F : List ND} {σ : RS} {n : Nat} (h : σ.2.2.1 n = 35) : lkX F σ n = lkTwo F σ n := by
  unfold lkX; rw [h, if_neg (by decide), if_neg (by decide), if_neg (by decide), if_neg (by decide), if_pos rfl]
theorem lkX_36 {F : List ND} {σ : RS} {n : Nat} (h : σ.2.2.1 n = 36) : lkX F σ n = lkOne F σ n := by
  unfold lkX; rw [h, if_neg (by decide), if_neg (by decide), if_neg (by decide), if_neg (by decide), if_neg (by decide), if_pos rfl]
theorem lkX_30 {F : List ND} {σ : RS} {n : Nat} (h : σ.2.2.1 n = 30) : lkX F σ n = .inl (setT σ n (if 32767 < σ.2.2.2.1 n then 2 else 1)) := by
  unfold lkX; rw [if_pos h]
theorem lkX_31 {F : List ND} {σ : RS} {n : Nat} (h : σ.2.2.1 n = 31) : lkX F σ n = .inl σ := by
  unfold lkX; rw [h, if_neg (by decide), if_neg (by decide), if_neg (by decide), if_neg (by decide), if_neg (by decide), if_neg (by decide)]
theorem lkVar_i {σ σ' : RS} {form : Int32} {n : Nat} (h : lkVar σ form n = .inl σ') : ¬ fVar σ (σ.2.2.2.1 n) = -1 ∧ frm σ (fVar σ (σ.2.2.2.1 n)).toNatClampNeg = form ∧ σ' = setT (setV σ n (fVar σ (σ.2.2.2.1 n))) n (tyV (setV σ n (fVar σ (σ.2.2.2.1 n))) (fVar σ (σ.2.2.2.1 n)).toNatClampNeg) := by
  unfold lkVar at h
  by_cases c : fVar σ (σ.2.2.2.1 n) = -1
  · rw [if_pos c] at h; cases h
  rw [if_neg c] at h
  by_cases c2 : frm σ (fVar σ (σ.2.2.2.1 n)).toNatClampNeg = form
  · rw [if_pos c2] at h; exact ⟨c, c2, inl_e h⟩
  · rw [if_neg c2] at h; cases h
theorem lkElem_i {σ σ' : RS} {n : Nat} (h : lkElem σ n = .inl σ') : ¬ fVar σ (σ.2.2.2.1 n) = -1 ∧ frm σ (fVar σ (σ.2.2.2.1 n)).toNatClampNeg = 9 ∧ σ' = setT (setV σ n (fVar σ (σ.2.2.2.1 n))) n (tyV (setV σ n (fVar σ (σ.2.2.2.1 n))) (fVar σ (σ.2.2.2.1 n)).toNatClampNeg) := by
  unfold lkElem at h
  by_cases c : fVar σ (σ.2.2.2.1 n) = -1
  · rw [if_pos c] at h; cases h
  rw [if_neg c] at h
  by_cases c2 : frm σ (fVar σ (σ.2.2.2.1 n)).toNatClampNeg = 9
  · rw [if_pos c2] at h
    by_cases c3 : σ.2.2.2.2 (n + 1) = 0
    · rw [if_pos c3] at h; cases h
    · rw [if_neg c3] at h; exact ⟨c, c2, inl_e h⟩
  · rw [if_neg c2] at h; cases h
def P10 (F : List ND) (s : SU) : Prop := ∀ j, j < F.length → exK (kK F j) → ty3 (s.1.2.2.2.2 j)
theorem P10.b {F : List ND} {s : SU} {σ : RS} {n : Nat} (h : P10 F s) (e : jb s n = .inl σ) : P10 F (σ, s.2) := by
  unfold jb at e
  split at e
  · unfold lkBeg at e
    split at e
    · cases e
    split at e
    · cases e
    · have e' := inl_e e
      obtain ⟨-, -, -, -, -, y6, -⟩ := beg_y s.1 n (s.1.2.2.1 n) (s.1.2.2.2.1 n)
      rw [← e'] at y6
      intro j hj hk
      show ty3 (σ.2.2.2.2 j)
      rw [y6]
      exact h j hj hk
  · rw [inl_e e]; exact h
/-- all that is known on the way -/
def PB (F : List ND) (A : List Nat) (i : Nat) (s : SU) : Prop := P1 F A i s ∧ P2 F A i s ∧ P3 F A i s ∧ P3b F A i s ∧ P4 s ∧ P5 F A i s ∧ P6 F A i s ∧ P7 F A i s ∧ P8 F A i s ∧ P9 F A s ∧ P10 F s ∧ P11 s
/-- all that is known of a text that was read -/
def HF (m0 : yM) (T : Nat) (F : List ND) : Prop := HW m0 T F ∧ K37 F ∧ kK F 0 = 0 ∧ F.length ≤ 16400 ∧ H7 F ∧ (∀ j, j < F.length → 0 < szF F j) ∧ (∀ i, i ≤ F.length → cntF (bB F) i ≤ 390) ∧ ∀ i, i ≤ F.length → cntF (vB F) i ≤ 4095
theorem PB.nb {m0 : yM} {T : Nat} {F : List ND} (hF : HF m0 T F) {A : List Nat} {i : Nat} {s : SU} (h : PB F A i s) (hi : i ≤ F.length) : s.1.1.length ≤ 391 ∧ s.1.2.1.length ≤ 4095 ∧ (∀ b, b < s.1.1.length → endV s.1 b ≤ s.1.2.1.length) ∧ (0 < s.1.1.length → (curB s.1).2.2.2.2 ≤ s.1.2.1.length) := by
  obtain ⟨h1, h2, -⟩ := h
  have a := hF.2.2.2.2.2.2.1 i hi
  have b := hF.2.2.2.2.2.2.2 i hi
  obtain ⟨⟨c1, -⟩, c2, c3, c4, c5⟩ := h2
  refine ⟨by omega, by omega, fun x hx => ?_, fun z => c4 (s.1.1.length - 1) (by omega)⟩
  unfold endV
  by_cases z : x + 1 < s.1.1.length
  · rw [if_pos z]; exact c4 _ z
  · rw [if_neg z]; exact Nat.le_refl _
theorem PB.pv {m0 : yM} {T : Nat} {F : List ND} (hF : HF m0 T F) {A : List Nat} {i : Nat} {s : SU} (h : PB F A i s) : PV s.1 ∧ PF s.1 ∧ btOk s.1 := by
  obtain ⟨h1, h2, h3, h3b, h4, h5, h6, h7, h8, h9, h10, h11⟩ := h
  exact ⟨PV_of hF.1 h1 hF.2.2.2.2.2.1 h4 h5 h6 h9, PF_of h11, btOk_of hF.1 h1 hF.2.2.2.2.2.1 h5 h6⟩
/-- a variable read -/
theorem PB.var {m0 : yM} {T : Nat} {F : List ND} (hF : HF m0 T F) {A : List Nat} {i : Nat} {s : SU} (h : PB F A i s) (hi : i ≤ F.length) (B0 : 0 < s.1.1.length) (hD : allD s.1) {x : Int32} (hx : ¬ fVar s.1 x = -1) : ∃ v y, v < s.1.2.1.length ∧ fVar s.1 x = nI v ∧ (fVar s.1 x).toNatClampNeg = v ∧ (curB s.1).2.2.2.2 ≤ v ∧ vOk s.1 v ∧ (s.1.2.1.getD v dVK).2 = some y ∧ vD s.1 v = y ∧ y.2.1 < F.length ∧ (kK F y.2.1 = 8 ∨ kK F y.2.1 = 9 ∨ kK F y.2.1 = 10) ∧ frm s.1 v = nI (kK F y.2.1) ∧ (frm s.1 v = 8 ∨ frm s.1 v = 9 → ty3 (tyV s.1 v)) := by
  obtain ⟨n1, n2, n3, n4⟩ := h.nb hF hi
  obtain ⟨h1, h2, h3, h3b, h4, h5, h6, h7, h8, h9, h10, h11⟩ := h
  obtain ⟨v, v1, v2, v3⟩ := fVar_x (by omega) B0 (n4 B0) hx
  have vo := hD v v1
  obtain ⟨-, y, hy⟩ := (vOk_i s.1 v).mp vo
  obtain ⟨t1, t2, -⟩ := tyV_3 hF.1 h1 hF.2.2.2.2.2.1 h5 h6 hy
  obtain ⟨a1, a2, -⟩ := h5 v y hy
  exact ⟨v, y, v1, v2, by rw [v2]; exact nI_clamp (by omega), v3, vo, hy, vD_s hy, a1, a2, t1, t2⟩
theorem P10.l {m0 : yM} {T : Nat} {F : List ND} (hF : HF m0 T F) {N : Nat} {A : List Nat} {n : Nat} {s : SU} {σ' : RS} (hp : PA m0 T F N A n) (h : PB F (A ++ [n]) (n + szF F n) s) (B0 : ¬ kK F n = 0 → 0 < s.1.1.length) (e : lk F A s.1 s.2 n = .inl σ') : P10 F (σ', nU s.1 s.2 n) := by
  have hb := h
  obtain ⟨h1, h2, h3, h3b, h4, h5, h6, h7, h8, h9, h10, h11⟩ := h
  have hn := hp.lt.1
  have k37 := hp.1.k37
  have at' := hp.1.at
  have nA : n ∈ A ++ [n] := List.mem_append_right _ List.mem_cons_self
  obtain ⟨kn, vn, tn⟩ := h1.1 n hn (Or.inr nA)
  obtain ⟨n1, n2, n3, n4⟩ := hb.nb hF at'.1
  obtain ⟨e1, e2, e3, e4, by'⟩ := lk_ef e (fun z => by
    rw [kn] at z
    exact (h1.2.2.2.2 n nA ((ch37e _ k37).mp z)).2.1)
  intro j hj hk
  show ty3 (σ'.2.2.2.2 j)
  by_cases ne : j = n
  · subst ne
    have z0 : ty3 (s.1.2.2.2.2 j) := h10 j hj hk
    have same : σ'.2.2.2.2 j = s.1.2.2.2.2 j → ty3 (σ'.2.2.2.2 j) := fun z => by rw [z]; exact z0
    have B0 := B0 (by rcases hk with k | k | k | k | k | k | k | k <;> rw [k] <;> decide)
    have vr : ∀ {x : Int32} (y : Int32), allD s.1 → ¬ fVar s.1 x = -1 → (frm s.1 (fVar s.1 x).toNatClampNeg = 8 ∨ frm s.1 (fVar s.1 x).toNatClampNeg = 9) → (kK F j = 6 ∨ kK F j = 32) → ty3 (tyV (setV s.1 j y) (fVar s.1 x).toNatClampNeg) := by
      intro x y hD hx hf kj
      obtain ⟨v, w, v1, v2, v3, v4, v5, v6, v7, v8, v9, v10, v11⟩ := hb.var hF at'.1 B0 hD hx
      rw [v3] at hf ⊢
      rw [tyV_sV y (by rw [v7]; intro z; rw [z] at v9; omega)]
      exact v11 hf
    rcases hk with k | k | k | k | k | k | k | k
    · -- a name
      rw [lk_6n (by rw [kn, k]; rfl)] at e
      unfold lkName at e
      by_cases c33 : s.1.2.2.1 (fPar A) = 33
      · rw [if_pos c33] at e
        exact same (by rw [inl_e e])
      rw [if_neg c33] at e
      by_cases c5 : s.1.2.2.1 (fPar A) = 5
      · rw [if_pos c5] at e
        split at e
        · cases e
        · exact same (by rw [inl_e e]; rfl)
      · rw [if_neg c5] at e
        obtain ⟨l1, l2, l3⟩ := lkVar_i e
        have p5 : ¬ kK F (fPar A) = 5 := by
          intro z
          apply c5
          rcases hp.up with ⟨y1, y2⟩ | ⟨B, p, M, u1, u2, u3, u4, u5⟩
          · rw [y2, hF.2.2.1] at k; omega
          · rw [u2] at z ⊢
            have pm : p ∈ A := by rw [u1]; exact List.mem_append_right _ List.mem_cons_self
            rw [(h1.1 p (hp.lt.2 p pm) (Or.inr (List.mem_append_left _ pm))).1, z]
            rfl
        have hD := allD_of h3 (hp.no5 (by omega) (fun _ => p5) (by omega) _)
        rw [l3]
        show ty3 (upI _ j _ j)
        rw [upI_n]
        exact vr _ hD l1 (Or.inl l2) (Or.inl k)
    · rw [lk_x (by rw [kn, k]; decide), lkX_30 (by rw [kn, k]; rfl)] at e
      rw [inl_e e]
      show ty3 (upI _ j _ j)
      rw [upI_n]
      split
      · exact Or.inr (Or.inr rfl)
      · exact Or.inr (Or.inl rfl)
    · rw [lk_x (by rw [kn, k]; decide), lkX_31 (by rw [kn, k]; rfl)] at e
      exact same (by rw [inl_e e])
    · have hD := allD_of h3 (hp.no5 (by omega) (by omega) (by omega) (j + szF F j))
      rw [lk_x (by rw [kn, k]; decide), lkX_32 (by rw [kn, k]; rfl)] at e
      obtain ⟨l1, l2, l3⟩ := lkElem_i e
      rw [l3]
      show ty3 (upI _ j _ j)
      rw [upI_n]
      exact vr _ hD l1 (Or.inr l2) (Or.inr k)
    · have hD := allD_of h3 (hp.no5 (by omega) (by omega) (by omega) (j + szF F j))
      rw [lk_x (by rw [kn, k]; decide), lkX_33 (by rw [kn, k]; rfl)] at e
      unfold lkOut at e
      by_cases c : fVar s.1 (s.1.2.2.2.1 j) = -1
      · rw [if_pos c] at e; cases e
      rw [if_neg c] at e
      by_cases c2 : frm s.1 (fVar s.1 (s.1.2.2.2.1 j)).toNatClampNeg = 10
      · rw [if_pos c2] at e
        split at e
        · cases e
        · rename_i c3
          rw [inl_e e]
          show ty3 (upI _ j _ j)
          rw [upI_n]
          obtain ⟨v, w, v1, v2, v3, v4, v5, v6, v7, v8, v9, v10, v11⟩ := hb.var hF at'.1 B0 hD c
          rw [v3] at c2 c3 ⊢
          exact prt_3 (hb.pv hF).1 hD n3 (by omega) v5 c2 (Or.inr rfl) c3
      · rw [if_neg c2] at e; cases e
    · have kd := hp.1.kdN
      have kt : ∀ c, c ∈ kids F j → ty3 (s.1.2.2.2.2 c) := by
        intro c hc
        have ok := hp.1.ok
        rw [k] at ok
        exact h10 c (hp.1.kin hc).2.2.2.1 (hp.1.mk ok.2 hc)
      have kl : (kids F j).length ≤ 16400 := Nat.le_trans (kds_len _ _ _ _) (by have := hF.2.2.2.1; omega)
      rw [lk_x (by rw [kn, k]; decide), lkX_34 (by rw [kn, k]; rfl)] at e
      unfold lkCall at e
      by_cases c : fBlk s.1 1 50 60 10 (s.1.2.2.2.1 j) = -1
      · rw [if_pos c] at e; cases e
      rw [if_neg c] at e
      by_cases c2 : ¬ nI (kids F j).length = wantC s.1 (fBlk s.1 1 50 60 10 (s.1.2.2.2.1 j))
      · rw [if_pos c2] at e; cases e
      rw [if_neg c2] at e
      have c2 := Decidable.byContradiction c2
      by_cases c3 : typC F s.1 j (fBlk s.1 1 50 60 10 (s.1.2.2.2.1 j)) = -1
      · rw [if_pos c3] at e; cases e
      rw [if_neg c3] at e
      have t3 : ty3 (typC F s.1 j (fBlk s.1 1 50 60 10 (s.1.2.2.2.1 j))) := by
        rcases fBlk_1 (by omega) c with ⟨q, q1, q2⟩ | ⟨b, b1, b2, b3⟩
        · rw [q2] at c2 c3 ⊢
          have n10 : ¬ 10 ≤ nI q := fun z => by
            have := (nI_leI (a := 10) (by omega) (by omega)).mp z
            omega
          unfold wantC at c2
          rw [if_neg n10, nI_clamp (by omega)] at c2
          unfold typC at c3 ⊢
          rw [if_neg n10] at c3 ⊢
          obtain ⟨k2, k3, ks, m1, m2, m3⟩ := kdS_of kd kl q1 c2
          rw [ks.ty (kt _ m1) (kt _ m2) (kt _ m3)] at c3 ⊢
          exact rsT_t q1 (kt _ m1) (kt _ m2) (kt _ m3) c3
        · rw [b2] at c3 ⊢
          have p10 : 10 ≤ nI (b + 10) := nI_le (a := 10) (by omega) (by omega)
          have s10 : nI (b + 10) - 10 = nI b := nI_sub (b := 10) (show 10 ≤ b + 10 by omega)
          unfold typC at c3 ⊢
          rw [if_pos p10, s10, nI_clamp (by omega)] at c3 ⊢
          rw [(owT_c F s.1 b _ _ _).resolve_left c3]
          obtain ⟨y, y1, y2⟩ := h11 b (by omega) b3
          obtain ⟨t1, t2, -⟩ := tyV_3 hF.1 h1 hF.2.2.2.2.2.1 h5 h6 y1
          obtain ⟨-, -, -, a4, -⟩ := h5 _ y y1
          have k8 := a4 (by rw [y2]; decide)
          exact t2 (Or.inl (by rw [t1, k8]; rfl))
      split at e
      · rw [inl_e e]
        show ty3 (upI _ j _ j)
        rw [upI_n]
        exact t3
      · rw [inl_e e]
        show ty3 (upI _ j _ j)
        rw [upI_n]
        exact t3
    · have ok := hp.1.ok
      rw [k] at ok
      obtain ⟨-, -, a, b, ha, hb', eks⟩ := ok
      obtain ⟨m1, m2, m3, m4, m5⟩ := hp.1.k2 eks
      have ta := h10 (j + 1) (by omega) (by rw [m2]; exact ha)
      have tb := h10 _ m4 (by rw [m3]; exact hb')
      rw [lk_x (by rw [kn, k]; decide), lkX_35 (by rw [kn, k]; rfl)] at e
      unfold lkTwo at e
      split at e
      · cases e
      · rename_i c
        have c1 : ¬ cmT (s.1.2.2.2.2 (j + 1)) (s.1.2.2.2.2 (j + 1 + szF F (j + 1))) = -1 := fun z => c (Or.inl z)
        have t3 := cmT_3 ta tb c1
        split at e
        · rw [inl_e e]
          show ty3 (upI _ j _ j)
          rw [upI_n]
          exact tyTwo_3 t3
        · rw [inl_e e]
          show ty3 (upI _ j _ j)
          rw [upI_n]
          exact tyTwo_3 t3
    · have ok := hp.1.ok
      rw [k] at ok
      obtain ⟨-, -, a, ha, eks⟩ := ok
      obtain ⟨m1, m2, m3, m4⟩ := hp.1.k1 eks
      have ta := h10 (j + 1) (by omega) (by rw [m2]; exact ha)
      rw [lk_x (by rw [kn, k]; decide), lkX_36 (by rw [kn, k]; rfl)] at e
      unfold lkOne at e
      split at e
      · cases e
      split at e
      · rw [inl_e e]
        show ty3 (upI _ j _ j)
        rw [upI_n]
        exact ta
      · rw [inl_e e]
        show ty3 (upI _ j _ j)
        rw [upI_n]
        exact ta
  · rcases e4 j with y | ⟨y, -⟩ | ⟨-, -, -, y⟩
    · rw [y]; exact h10 j hj hk
    · exact absurd y ne
    · exfalso
      rcases h1.2.1 j hj with z | ⟨z, -⟩
      · rw [z] at y
        rcases hk with k | k | k | k | k | k | k | k <;> rw [k] at y <;> exact absurd y (by decide)
      · rw [z] at y
        exact absurd y (by decide)
