/-! THE RULES' INVARIANTS: blocks, how many names -/
def cntF (p : Nat → Bool) (i : Nat) : Nat := ((List.range i).filter p).length
theorem cntF_s (p : Nat → Bool) (i : Nat) : cntF p (i + 1) = cntF p i + (if p i = true then 1 else 0) := by
  unfold cntF
  rw [List.range_succ, List.filter_append, List.length_append]
  congr 1
  by_cases h : p i = true
  · rw [if_pos h, List.filter_cons_of_pos h]; rfl
  · rw [if_neg h, List.filter_cons_of_neg h]; rfl
theorem cntF_le (p : Nat → Bool) : ∀ {i j : Nat}, i ≤ j → cntF p i ≤ cntF p j := by
  intro i j h
  induction j with
  | zero => rw [show i = 0 by omega]; exact Nat.le_refl _
  | succ j ih =>
    by_cases e : i = j + 1
    · rw [e]; exact Nat.le_refl _
    · rw [cntF_s]
      exact Nat.le_trans (ih (by omega)) (Nat.le_add_right _ _)
def bB (F : List ND) (i : Nat) : Bool := decide (kK F i = 1 ∨ kK F i = 2)
def vB (F : List ND) (i : Nat) : Bool := decide (¬ vtF F i = 0)
def b6 (F : List ND) (i : Nat) : Bool := decide (kK F i = 6)
theorem lk_ev {F : List ND} {A : List Nat} {σ σ' : RS} {U : Nat → Bool} {n : Nat} (h : lk F A σ U n = .inl σ') : σ.2.1.length ≤ σ'.2.1.length ∧ σ'.2.1.length ≤ σ.2.1.length + (if σ.2.2.1 n = 6 then 1 else 0) := by
  by_cases k1 : bkN (σ.2.2.1 n)
  · unfold lk at h
    have k0 : ¬ σ.2.2.1 n = 0 := by rcases k1 with k | k | k <;> rw [k] <;> decide
    rw [if_neg k0, if_pos k1] at h
    unfold lkBlk at h
    split at h
    · cases h
    · rw [inl_e h, (ownC_y _ _ _ _).2.1]
      exact ⟨Nat.le_refl _, Nat.le_add_right _ _⟩
  by_cases k5 : σ.2.2.1 n = 5
  · unfold lk at h
    have k0 : ¬ σ.2.2.1 n = 0 := by rw [k5]; decide
    have k4 : ¬ σ.2.2.1 n = 4 := by rw [k5]; decide
    rw [if_neg k0, if_neg k1, if_neg k4, if_pos k5] at h
    unfold lkDcl at h
    split at h
    · cases h
    split at h
    · cases h
    split at h
    · cases h
    split at h
    · cases h
    · rw [inl_e h]
      unfold dcS
      rw [(dsL_len _ _ _ _ _ _ _).2.1]
      exact ⟨Nat.le_refl _, Nat.le_add_right _ _⟩
  by_cases k6 : σ.2.2.1 n = 6 ∧ σ.2.2.1 (fPar A) = 5
  · unfold lk at h
    have k0 : ¬ σ.2.2.1 n = 0 := by rw [k6.1]; decide
    have k4 : ¬ σ.2.2.1 n = 4 := by rw [k6.1]; decide
    rw [if_neg k0, if_neg k1, if_neg k4, if_neg k5, if_pos k6.1] at h
    unfold lkName at h
    rw [if_neg (by rw [k6.2]; decide), if_pos k6.2] at h
    split at h
    · cases h
    · rw [inl_e h, if_pos k6.1]
      unfold decl
      dsimp only
      rw [List.length_append]
      exact ⟨Nat.le_add_right _ _, Nat.le_refl _⟩
  · rw [(lk_lo h k1 k5 k6).2.1]
    exact ⟨Nat.le_refl _, Nat.le_add_right _ _⟩
theorem beg_v (σ : RS) (n : Nat) (k nm : Int32) : (beg σ n k nm).2.1.length = σ.2.1.length + (if k = 1 then 1 else 0) := by
  unfold beg
  by_cases q : k = 1
  · rw [if_pos q, if_pos q]
    show (((beg0 σ n k nm).2.1 ++ [(nm, none)]).set _ _).length = _
    rw [List.length_set, List.length_append]
    rfl
  · rw [if_neg q, if_neg q]
    rfl
/-- blocks so far -/
def P2 (F : List ND) (A : List Nat) (i : Nat) (s : SU) : Prop := (s.1.1.length ≤ cntF (bB F) i + 1 ∧ (¬ inB s.1 3 → s.1.1.length ≤ cntF (bB F) i)) ∧ s.1.2.1.length + (A.filter (b6 F)).length ≤ cntF (vB F) i ∧ dsN s.1 ∧ (∀ b, b < s.1.1.length → (s.1.1.getD b dBK).2.2.2.2 ≤ s.1.2.1.length) ∧ (∀ b, b + 1 < s.1.1.length → (s.1.1.getD b dBK).2.2.2.2 ≤ (s.1.1.getD (b + 1) dBK).2.2.2.2) ∧ (∀ b, b + 1 < s.1.1.length → (s.1.1.getD b dBK).1 = 1 ∨ (s.1.1.getD b dBK).1 = 2) ∧ ∀ b, b < s.1.1.length → (s.1.1.getD b dBK).1 = 1 ∨ (s.1.1.getD b dBK).1 = 2 ∨ (s.1.1.getD b dBK).1 = 3
theorem filt6 {F : List ND} (A : List Nat) (n : Nat) : ((A ++ [n]).filter (b6 F)).length = (A.filter (b6 F)).length + (if kK F n = 6 then 1 else 0) := by
  rw [List.filter_append, List.length_append]
  congr 1
  by_cases h : kK F n = 6
  · rw [if_pos h, List.filter_cons_of_pos (show b6 F n = true from decide_eq_true h)]; rfl
  · rw [if_neg h, List.filter_cons_of_neg (show ¬ b6 F n = true from fun z => h (decide_eq_true_iff.mp z))]; rfl
theorem vt6 {m0 : yM} {T : Nat} {F : List ND} {N n : Nat} (h : TW m0 T F N n) (k : kK F n = 6 ∨ kK F n = 1) : ¬ vtF F n = 0 := by
  cases N with
  | zero => exact absurd h (fun z => z)
  | succ N =>
    have ok := h.2.2.2.2.1
    rcases k with k | k
    · rw [k] at ok
      obtain ⟨⟨t, e, -⟩, -⟩ := ok
      omega
    · rw [k] at ok
      obtain ⟨⟨t, e, -⟩, -⟩ := ok
      omega
theorem P2.b {m0 : yM} {T : Nat} {F : List ND} (hB : ∀ i, i ≤ F.length → cntF (bB F) i ≤ 390) {N : Nat} {A : List Nat} {n : Nat} {s : SU} {σ : RS} (hp : PA m0 T F N A n) (h1 : P1 F A n s) (h : P2 F A n s) (e : jb s n = .inl σ) : P2 F (A ++ [n]) (n + 1) (σ, s.2) := by
  obtain ⟨a1, a2, a3, a4, a5, a6, a7⟩ := h
  have hn := hp.lt.1
  have k37 := hp.1.k37
  have kn := (h1.1 n hn (Or.inl (Nat.le_refl _))).1
  have cb := ch37e _ k37
  have b9 := hB n (by omega)
  have c6 : (A.filter (b6 F)).length + (if kK F n = 6 then 1 else 0) + cntF (vB F) n ≤ (A.filter (b6 F)).length + cntF (vB F) (n + 1) := by
    rw [cntF_s]
    by_cases k6 : kK F n = 6
    · rw [if_pos k6, if_pos (show vB F n = true from decide_eq_true (vt6 hp.1 (Or.inl k6)))]
      omega
    · rw [if_neg k6]
      omega
  unfold jb at e
  rw [kn] at e
  by_cases q : bkN (nI (kK F n))
  · rw [if_pos q] at e
    have kb := cb.mp q
    unfold lkBeg at e
    by_cases i3 : inB s.1 3
    · rw [if_pos i3] at e; cases e
    rw [if_neg i3] at e
    by_cases nb : isSt (s.1.2.2.2.1 n) ∨ ¬ bix s.1.1 (s.1.2.2.2.1 n) s.1.1.length = -1
    · rw [if_pos nb] at e; cases e
    rw [if_neg nb] at e
    have e' := inl_e e
    have fresh := (bix_n (by omega) (s.1.2.2.2.1 n)).mp (Decidable.byContradiction (fun z => nb (Or.inr z)))
    obtain ⟨y1, y2, y3, y4, y5, y6, y7⟩ := beg_y s.1 n (s.1.2.2.1 n) (s.1.2.2.2.1 n)
    have yv := beg_v s.1 n (s.1.2.2.1 n) (s.1.2.2.2.1 n)
    rw [← e'] at y1 y2 y4 y5 y7 yv
    unfold curB at y2 y4 y5
    rw [y1, show s.1.1.length + 1 - 1 = s.1.1.length by omega] at y2 y4 y5
    have vle : s.1.2.1.length ≤ σ.2.1.length := by rw [yv]; exact Nat.le_add_right _ _
    refine ⟨?_, ?_, fun a b ha hb en => ?_, fun b hb => ?_, fun b hb => ?_, fun b hb => ?_, fun b hb => ?_⟩
    · have a0 := a1.2 i3
      show σ.1.length ≤ _ ∧ (¬ inB σ 3 → σ.1.length ≤ _)
      rw [y1, cntF_s]
      by_cases k3 : kK F n = 3
      · refine ⟨by omega, fun z => absurd ⟨by omega, ?_⟩ z⟩
        unfold curB
        rw [y1, Nat.add_sub_cancel, y2, kn, k3]
        rfl
      · rw [if_pos (show bB F n = true from decide_eq_true (by omega))]
        exact ⟨by omega, fun _ => by omega⟩
    · show σ.2.1.length + _ ≤ _
      rw [filt6, yv, kn]
      by_cases k1 : kK F n = 1
      · have n6 : ¬ kK F n = 6 := by omega
        rw [if_neg n6, k1, if_pos (show nI 1 = 1 from rfl), cntF_s, if_pos (show vB F n = true from decide_eq_true (vt6 hp.1 (Or.inr k1)))]
        omega
      · have n1 : ¬ nI (kK F n) = 1 := fun z => k1 ((nI_eq (b := 1) (by omega) (by omega)).mp z)
        rw [if_neg n1]
        omega
    · have ha : a < σ.1.length := ha
      have hb : b < σ.1.length := hb
      have en : (σ.1.getD a dBK).2.2.1 = (σ.1.getD b dBK).2.2.1 := en
      rw [y1] at ha hb
      by_cases xa : a < s.1.1.length
      · by_cases xb : b < s.1.1.length
        · rw [y7 a xa, y7 b xb] at en
          exact a3 a b xa xb en
        · have : b = s.1.1.length := by omega
          subst this
          rw [y7 a xa, y4] at en
          exact absurd ⟨a, xa, en⟩ fresh
      · have : a = s.1.1.length := by omega
        subst this
        by_cases xb : b < s.1.1.length
        · rw [y4, y7 b xb] at en
          exact absurd ⟨b, xb, en.symm⟩ fresh
        · omega
    · have hb : b < σ.1.length := hb
      rw [y1] at hb
      show (σ.1.getD b dBK).2.2.2.2 ≤ σ.2.1.length
      by_cases xb : b < s.1.1.length
      · rw [y7 b xb]; exact Nat.le_trans (a4 b xb) vle
      · have : b = s.1.1.length := by omega
        subst this
        rw [y5]; exact vle
    · have hb : b + 1 < σ.1.length := hb
      rw [y1] at hb
      show (σ.1.getD b dBK).2.2.2.2 ≤ (σ.1.getD (b + 1) dBK).2.2.2.2
      rw [y7 b (by omega)]
      by_cases xb : b + 1 < s.1.1.length
      · rw [y7 (b + 1) xb]; exact a5 b xb
      · have : b + 1 = s.1.1.length := by omega
        rw [this, y5]; exact a4 b (by omega)
    · have hb : b + 1 < σ.1.length := hb
      rw [y1] at hb
      show (σ.1.getD b dBK).1 = 1 ∨ (σ.1.getD b dBK).1 = 2
      rw [y7 b (by omega)]
      by_cases xb : b + 1 < s.1.1.length
      · exact a6 b xb
      · rcases a7 b (by omega) with z | z | z
        · exact Or.inl z
        · exact Or.inr z
        · refine absurd ⟨by omega, ?_⟩ i3
          unfold curB
          rw [show s.1.1.length - 1 = b by omega]
          exact z
    · have hb : b < σ.1.length := hb
      rw [y1] at hb
      show (σ.1.getD b dBK).1 = 1 ∨ (σ.1.getD b dBK).1 = 2 ∨ (σ.1.getD b dBK).1 = 3
      by_cases xb : b < s.1.1.length
      · rw [y7 b xb]; exact a7 b xb
      · have : b = s.1.1.length := by omega
        subst this
        rw [y2, kn]
        rcases kb with z | z | z <;> rw [z] <;> decide
  · rw [if_neg q] at e
    have e' := inl_e e
    subst e'
    refine ⟨?_, ?_, a3, a4, a5, a6, a7⟩
    · have := cntF_le (bB F) (show n ≤ n + 1 by omega)
      exact ⟨by show s.1.1.length ≤ _; have := a1.1; omega, fun z => by show s.1.1.length ≤ _; have := a1.2 z; omega⟩
    · rw [filt6]
      show s.1.2.1.length + _ ≤ _
      omega
theorem P2.l {m0 : yM} {T : Nat} {F : List ND} {N : Nat} {A : List Nat} {n : Nat} {s : SU} {σ' : RS} (hp : PA m0 T F N A n) (h1 : P1 F (A ++ [n]) (n + szF F n) s) (h : P2 F (A ++ [n]) (n + szF F n) s) (e : lk F A s.1 s.2 n = .inl σ') : P2 F A (n + szF F n) (σ', nU s.1 s.2 n) := by
  obtain ⟨a1, a2, a3, a4, a5, a6, a7⟩ := h
  have hn := hp.lt.1
  have k37 := hp.1.k37
  have nA : n ∈ A ++ [n] := List.mem_append_right _ List.mem_cons_self
  have kn := (h1.1 n hn (Or.inr nA)).1
  obtain ⟨v1, v2⟩ := lk_ev e
  have by' := (lk_ef e (fun z => by
    rw [kn] at z
    exact (h1.2.2.2.2 n nA ((ch37e _ k37).mp z)).2.1)).2.2.2.2
  rw [kn] at v2
  rw [filt6] at a2
  have bl : σ'.1.length = s.1.1.length := by'.1
  have bi : inB σ' 3 ↔ inB s.1 3 := by
    unfold inB
    rw [by'.1, by'.c.1]
  refine ⟨⟨by show σ'.1.length ≤ _; rw [bl]; exact a1.1, fun z => by show σ'.1.length ≤ _; rw [bl]; exact a1.2 (fun w => z (bi.mpr w))⟩, ?_, fun a b ha hb en => ?_, fun b hb => ?_, fun b hb => ?_, fun b hb => ?_, fun b hb => ?_⟩
  · show σ'.2.1.length + _ ≤ _
    have i6 : nI (kK F n) = 6 ↔ kK F n = 6 := nI_eq (b := 6) (by omega) (by omega)
    by_cases k6 : kK F n = 6
    · rw [if_pos (i6.mpr k6)] at v2
      rw [if_pos k6] at a2
      omega
    · rw [if_neg (fun z => k6 (i6.mp z))] at v2
      rw [if_neg k6] at a2
      omega
  · have ha : a < σ'.1.length := ha
    have hb : b < σ'.1.length := hb
    have en : (σ'.1.getD a dBK).2.2.1 = (σ'.1.getD b dBK).2.2.1 := en
    rw [by'.1] at ha hb
    rw [(by'.2 a).2.2.1, (by'.2 b).2.2.1] at en
    exact a3 a b ha hb en
  · have hb : b < σ'.1.length := hb
    rw [by'.1] at hb
    show (σ'.1.getD b dBK).2.2.2.2 ≤ σ'.2.1.length
    rw [(by'.2 b).2.2.2]
    exact Nat.le_trans (a4 b hb) v1
  · have hb : b + 1 < σ'.1.length := hb
    rw [by'.1] at hb
    show (σ'.1.getD b dBK).2.2.2.2 ≤ (σ'.1.getD (b + 1) dBK).2.2.2.2
    rw [(by'.2 b).2.2.2, (by'.2 (b + 1)).2.2.2]
    exact a5 b hb
  · have hb : b + 1 < σ'.1.length := hb
    rw [by'.1] at hb
    show (σ'.1.getD b dBK).1 = 1 ∨ (σ'.1.getD b dBK).1 = 2
    rw [(by'.2 b).1]
    exact a6 b hb
  · have hb : b < σ'.1.length := hb
    rw [by'.1] at hb
    show (σ'.1.getD b dBK).1 = 1 ∨ (σ'.1.getD b dBK).1 = 2 ∨ (σ'.1.getD b dBK).1 = 3
    rw [(by'.2 b).1]
    exact a7 b hb
