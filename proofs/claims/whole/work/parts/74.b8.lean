/-! THE RULES' INVARIANTS: cells of declared variables -/
/-- a type's size, whatever the block that is begun takes -/
def szS (σ : RS) (tn z : Nat) : Prop := szT σ tn = nI z ∧ (σ.2.2.1 tn = 8 ∨ σ.2.2.1 tn = 9 ∨ ¬ 9 ≤ σ.2.2.2.1 tn ∨ ¬ (σ.2.2.2.1 tn - 9).toNatClampNeg = σ.1.length - 1)
theorem szS.n {σ : RS} {tn z : Nat} (h : szS σ tn z) (h0 : 0 < σ.1.length) (v : Nat) (y : Int32 × Nat × Int32 × Int32) (c : Int32) : szS (setC (setVr σ v y) (σ.1.length - 1) c) tn z := by
  obtain ⟨a, b⟩ := h
  have l : (setC (setVr σ v y) (σ.1.length - 1) c).1.length = σ.1.length := setC_l _ _ _
  refine ⟨?_, by rw [l]; exact b⟩
  rw [← a]
  unfold szT
  show (if σ.2.2.1 tn = 8 then (1 : Int32) else if σ.2.2.1 tn = 9 then σ.2.2.2.1 tn else if 9 ≤ σ.2.2.2.1 tn then cB (setC (setVr σ v y) (σ.1.length - 1) c) (σ.2.2.2.1 tn - 9).toNatClampNeg else xar_2.getD (σ.2.2.2.1 tn).toNatClampNeg 0) = _
  by_cases k8 : σ.2.2.1 tn = 8
  · rw [if_pos k8, if_pos k8]
  rw [if_neg k8, if_neg k8]
  by_cases k9 : σ.2.2.1 tn = 9
  · rw [if_pos k9, if_pos k9]
  rw [if_neg k9, if_neg k9]
  by_cases q : 9 ≤ σ.2.2.2.1 tn
  · rw [if_pos q, if_pos q, setC_cB (setVr σ v y) (show σ.1.length - 1 < σ.1.length by omega), if_neg ?_]
    · rfl
    · rcases b with b | b | b | b
      · exact absurd b k8
      · exact absurd b k9
      · exact absurd q b
      · exact b
  · rw [if_neg q, if_neg q]
theorem dsL_c {tn : Nat} {sec ini : Int32} {z : Nat} : ∀ (k v : Nat) (σ : RS) (c : Nat), 0 < σ.1.length → cB σ (σ.1.length - 1) = nI c → szS σ tn z → v + k ≤ σ.2.1.length → cB (dsL (-1) tn sec ini k v σ) (σ.1.length - 1) = nI (c + k * z) ∧ ∀ u, v ≤ u → u < v + k → ((dsL (-1) tn sec ini k v σ).2.1.getD u dVK).2 = some (sec, tn, ini, nI (c + (u - v) * z))
  | 0, v, σ, c, _, hc, _, _ => ⟨by rw [Nat.zero_mul, Nat.add_zero]; exact hc, fun u h1 h2 => by omega⟩
  | k + 1, v, σ, c, h0, hc, hz, hv => by
    have es : dsL (-1) tn sec ini (k + 1) v σ = dsL (-1) tn sec ini k (v + 1) (if (-1 : Int32) = -1 then setC (setVr σ v (sec, tn, ini, (curB σ).2.2.2.1)) (σ.1.length - 1) ((curB σ).2.2.2.1 + szT (setVr σ v (sec, tn, ini, (curB σ).2.2.2.1)) tn) else setVr σ v (sec, tn, ini, -1)) := rfl
    have ez : szT (setVr σ v (sec, tn, ini, (curB σ).2.2.2.1)) tn = nI z := hz.1
    have ec : (curB σ).2.2.2.1 = nI c := hc
    rw [es, if_pos rfl, ez, ec, nI_add]
    have l : (setC (setVr σ v (sec, tn, ini, nI c)) (σ.1.length - 1) (nI (c + z))).1.length = σ.1.length := setC_l _ _ _
    have lv : (setC (setVr σ v (sec, tn, ini, nI c)) (σ.1.length - 1) (nI (c + z))).2.1.length = σ.2.1.length := List.length_set
    obtain ⟨i1, i2⟩ := dsL_c (sec := sec) (ini := ini) k (v + 1) (setC (setVr σ v (sec, tn, ini, nI c)) (σ.1.length - 1) (nI (c + z))) (c + z) (by rw [l]; exact h0) (by
      rw [l, setC_cB (setVr σ v (sec, tn, ini, nI c)) (show σ.1.length - 1 < σ.1.length by omega), if_pos rfl]) (hz.n h0 v _ _) (by rw [lv]; omega)
    rw [l] at i1
    refine ⟨?_, fun u h1 h2 => ?_⟩
    · rw [i1, Nat.succ_mul]
      congr 1
      omega
    · by_cases e : u = v
      · subst e
        have o := (dsL_v (-1) tn sec ini k (u + 1) (setC (setVr σ u (sec, tn, ini, nI c)) (σ.1.length - 1) (nI (c + z))) (by rw [lv]; omega) u).2.1 (by omega)
        rw [o]
        show ((setVr σ u (sec, tn, ini, nI c)).2.1.getD u dVK).2 = _
        rw [setVr_at σ (by omega), if_pos rfl, Nat.sub_self, Nat.zero_mul, Nat.add_zero]
      · have ee : c + z + (u - (v + 1)) * z = c + (u - v) * z := by
          rw [show u - v = u - (v + 1) + 1 by omega, Nat.succ_mul]
          omega
        rw [i2 u (by omega) (by omega), ee]
theorem dsL_a {at_ : Int32} (ha : ¬ at_ = -1) {tn : Nat} {sec ini : Int32} : ∀ (k v : Nat) (σ : RS), v + k ≤ σ.2.1.length → ∀ u, v ≤ u → u < v + k → ((dsL at_ tn sec ini k v σ).2.1.getD u dVK).2 = some (sec, tn, ini, at_)
  | 0, v, σ, _, u, h1, h2 => by omega
  | k + 1, v, σ, hv, u, h1, h2 => by
    have es : dsL at_ tn sec ini (k + 1) v σ = dsL at_ tn sec ini k (v + 1) (if at_ = -1 then setC (setVr σ v (sec, tn, ini, (curB σ).2.2.2.1)) (σ.1.length - 1) ((curB σ).2.2.2.1 + szT (setVr σ v (sec, tn, ini, (curB σ).2.2.2.1)) tn) else setVr σ v (sec, tn, ini, at_)) := rfl
    rw [es, if_neg ha]
    have lv : (setVr σ v (sec, tn, ini, at_)).2.1.length = σ.2.1.length := List.length_set
    by_cases e : u = v
    · subst e
      have o := (dsL_v at_ tn sec ini k (u + 1) (setVr σ u (sec, tn, ini, at_)) (by rw [lv]; omega) u).2.1 (by omega)
      rw [o, setVr_at σ (by omega), if_pos rfl]
    · exact dsL_a ha k (v + 1) (setVr σ v (sec, tn, ini, at_)) (by rw [lv]; omega) u (by omega) (by omega)
/-- the names that wait are this block's -/
def P3b (F : List ND) (A : List Nat) (i : Nat) (s : SU) : Prop := 0 < s.1.1.length → (curB s.1).2.2.2.2 + qN F A i ≤ s.1.2.1.length
theorem P3b.b {m0 : yM} {T : Nat} {F : List ND} (h0 : kK F 0 = 0) {N : Nat} {A : List Nat} {n : Nat} {s : SU} {σ : RS} (hp : PA m0 T F N A n) (h1 : P1 F A n s) (h : P3b F A n s) (e : jb s n = .inl σ) : P3b F (A ++ [n]) (n + 1) (σ, s.2) := by
  unfold P3b at h ⊢
  rw [qN_b hp]
  have kn := (h1.1 n hp.lt.1 (Or.inl (Nat.le_refl _))).1
  unfold jb at e
  by_cases q : bkN (s.1.2.2.1 n)
  · rw [if_pos q] at e
    have kb : kK F n = 1 ∨ kK F n = 2 ∨ kK F n = 3 := by rw [kn] at q; exact (ch37e _ hp.1.k37).mp q
    have eA := hp.blk h0 kb
    have q0 : qN F A n = 0 := by
      unfold qN
      rw [eA, if_neg (fun z => by have := z.1; simp at this)]
    rw [q0]
    unfold lkBeg at e
    split at e
    · cases e
    split at e
    · cases e
    · have e' := inl_e e
      obtain ⟨-, -, -, -, y5, -, -⟩ := beg_y s.1 n (s.1.2.2.1 n) (s.1.2.2.2.1 n)
      have yv := beg_v s.1 n (s.1.2.2.1 n) (s.1.2.2.2.1 n)
      rw [← e'] at y5 yv
      intro _
      show (curB σ).2.2.2.2 + 0 ≤ σ.2.1.length
      rw [y5, yv]
      exact Nat.le_add_right _ _
  · rw [if_neg q] at e
    rw [inl_e e]
    exact h
theorem P3b.l {m0 : yM} {T : Nat} {F : List ND} (hK : K37 F) (h0 : kK F 0 = 0) {N : Nat} {A : List Nat} {n : Nat} {s : SU} {σ' : RS} (hp : PA m0 T F N A n) (h1 : P1 F (A ++ [n]) (n + szF F n) s) (h2' : P2 F A (n + szF F n) (σ', nU s.1 s.2 n)) (h : P3b F (A ++ [n]) (n + szF F n) s) (e : lk F A s.1 s.2 n = .inl σ') : P3b F A (n + szF F n) (σ', nU s.1 s.2 n) := by
  have hn := hp.lt.1
  have k37 := hp.1.k37
  have nA : n ∈ A ++ [n] := List.mem_append_right _ List.mem_cons_self
  have kn := (h1.1 n hn (Or.inr nA)).1
  have by' := (lk_ef e (fun z => by
    rw [kn] at z
    exact (h1.2.2.2.2 n nA ((ch37e _ k37).mp z)).2.1)).2.2.2.2
  intro hl
  have hl : 0 < σ'.1.length := hl
  show (curB σ').2.2.2.2 + _ ≤ σ'.2.1.length
  have z0 : qN F A (n + szF F n) = 0 → (curB σ').2.2.2.2 + qN F A (n + szF F n) ≤ σ'.2.1.length := by
    intro q
    rw [q]
    exact h2'.2.2.2.1 (σ'.1.length - 1) (by show _ < σ'.1.length; omega)
  by_cases c : 4 ≤ A.length ∧ kK F (A.getD 3 0) = 5
  · have h := h (by rw [← by'.1]; exact hl)
    rw [by'.c.2.2.2]
    have g := gD_ap A n (i := 3) (by omega)
    have pB : 4 ≤ (A ++ [n]).length ∧ kK F ((A ++ [n]).getD 3 0) = 5 := ⟨by rw [List.length_append]; omega, by rw [g]; exact c.2⟩
    have dm : A.getD 3 0 ∈ A := List.mem_of_getElem? (getD_some (d := 0) (show 3 < A.length by omega))
    have eq : qN F (A ++ [n]) (n + szF F n) = cntF (b6 F) (n + szF F n) - cntF (b6 F) (A.getD 3 0 + 1) - ((A.filter (b6 F)).length + (if kK F n = 6 then 1 else 0)) := by
      unfold qN
      rw [if_pos pB, g, filt6]
    have eq2 : qN F A (n + szF F n) = cntF (b6 F) (n + szF F n) - cntF (b6 F) (A.getD 3 0 + 1) - (A.filter (b6 F)).length := by
      unfold qN
      rw [if_pos c]
    have v1 := (lk_ev e).1
    by_cases k6 : kK F n = 6
    · obtain ⟨j1, j2⟩ := (hp.ind A.length rfl c.1 c.2).2 k6
      have kp : s.1.2.2.1 (fPar A) = 5 := by
        rw [j2, (h1.1 _ (hp.lt.2 _ dm) (Or.inr (List.mem_append_left _ dm))).1, c.2]
        rfl
      obtain ⟨l1, -⟩ := lk_6 e (by rw [kn, k6]; rfl) kp
      have ln : σ'.2.1.length = s.1.2.1.length + 1 := by
        rw [l1]
        show (s.1.2.1 ++ [(s.1.2.2.2.1 n, none)]).length = _
        rw [List.length_append]
        rfl
      rw [if_pos k6] at eq
      omega
    · rw [if_neg k6] at eq
      omega
  · exact z0 (qN_z c)
