/-! THE RULES' INVARIANTS: inputs that are told; all together -/
theorem PA.in5 {m0 : yM} {T : Nat} {F : List ND} (h0 : kK F 0 = 0) : ∀ (l : Nat) {N : Nat} {A : List Nat} {n : Nat}, PA m0 T F N A n → A.length = l → 4 ≤ A.length → kK F (A.getD 3 0) = 5 → ∀ p, p ∈ A → kK F p ≤ 10 ∨ kK F p = 30 ∨ kK F p = 31 := by
  intro l
  induction l with
  | zero => intro N A n _ e h4; omega
  | succ l ih =>
    intro N A n h e h4 h5 p hp
    rcases h.up with ⟨y, -⟩ | ⟨B, q, M, e1, e2, e3, e4, e5⟩
    · rw [y] at e; cases e
    · have lB : B.length = l := by
        rw [e1, List.length_append, List.length_singleton] at e
        omega
      by_cases c : B.length = 3
      · have pe : A.getD 3 0 = q := by
          rw [e1, List.getD_eq_getElem?_getD, List.getElem?_append_right (by omega), c]
          rfl
        rw [pe] at h5
        obtain ⟨b, g, eB, kb, kg, -, -⟩ := e5.dcl h0 h5
        rw [e1, eB] at hp
        rcases List.mem_append.mp hp with y | y
        · rcases List.mem_cons.mp y with y | y
          · rw [y, h0]; omega
          · rcases List.mem_cons.mp y with y | y
            · rw [y]; omega
            · rw [List.mem_singleton.mp y]; omega
        · rw [List.mem_singleton.mp y]; omega
      · have l4 : 4 ≤ B.length := by
          have : A.length = B.length + 1 := by rw [e1, List.length_append, List.length_singleton]
          omega
        have ge : A.getD 3 0 = B.getD 3 0 := by rw [e1]; exact gD_ap B q (by omega)
        rw [ge] at h5
        rw [e1] at hp
        rcases List.mem_append.mp hp with y | y
        · exact ih e5 lB l4 h5 p y
        · rw [List.mem_singleton.mp y]
          have := (e5.ind B.length rfl l4 h5).1
          omega
/-- below a statement no declaration is open -/
theorem PA.q0 {m0 : yM} {T : Nat} {F : List ND} (h0 : kK F 0 = 0) {N : Nat} {A : List Nat} {n : Nat} (hp : PA m0 T F N A n) {p : Nat} (hpm : p ∈ A) (kp : ¬ (kK F p ≤ 10 ∨ kK F p = 30 ∨ kK F p = 31)) (i : Nat) : qN F (A ++ [n]) i = 0 ∧ ¬ (kK F n = 1 ∨ kK F n = 2 ∨ kK F n = 3) ∧ ¬ kK F n = 5 ∧ ¬ (kK F n = 6 ∧ kK F (fPar A) = 5) := by
  have c : ¬ (4 ≤ A.length ∧ kK F (A.getD 3 0) = 5) := fun z => kp (hp.in5 h0 A.length rfl z.1 z.2 p hpm)
  have n5 : ¬ kK F n = 5 := by
    intro z
    obtain ⟨b, g, eA, kb, kg, -, -⟩ := hp.dcl h0 z
    rw [eA] at hpm
    rcases List.mem_cons.mp hpm with y | y
    · rw [y, h0] at kp; omega
    · rcases List.mem_cons.mp y with y | y
      · rw [y] at kp; omega
      · rw [List.mem_singleton.mp y] at kp; omega
  refine ⟨qN_z (fun z => ?_), fun z => ?_, n5, fun z => ?_⟩
  · obtain ⟨z1, z2⟩ := z
    rw [List.length_append, List.length_singleton] at z1
    by_cases c4 : 4 ≤ A.length
    · rw [gD_ap A n (by omega)] at z2
      exact c ⟨c4, z2⟩
    · have c3 : A.length = 3 := by omega
      have g : (A ++ [n]).getD 3 0 = n := by
        rw [List.getD_eq_getElem?_getD, List.getElem?_append_right (by omega), c3]
        rfl
      rw [g] at z2
      exact n5 z2
  · rw [hp.blk h0 z] at hpm
    rw [List.mem_singleton.mp hpm, h0] at kp
    omega
  · have fm : fPar A ∈ A := by
      rcases hp.up with ⟨y1, y2⟩ | ⟨B, q, M, e1, e2, e3, e4, e5⟩
      · rw [y1] at hpm; cases hpm
      · rw [e2, e1]; exact List.mem_append_right _ List.mem_cons_self
    obtain ⟨q1, q2⟩ := hp.m5 h0 A.length rfl _ fm z.2
    exact c ⟨q1, by rw [q2]; exact z.2⟩
theorem PA.bk {m0 : yM} {T : Nat} {F : List ND} : ∀ (l : Nat) {N : Nat} {A : List Nat} {n : Nat}, PA m0 T F N A n → A.length = l → ¬ kK F n = 0 → kK F 0 = 0 → ∃ p, p ∈ A ++ [n] ∧ (kK F p = 1 ∨ kK F p = 2 ∨ kK F p = 3) := by
  intro l
  induction l with
  | zero =>
    intro N A n h e k h0
    rcases h.up with ⟨y1, y2⟩ | ⟨B, q, M, e1, e2, e3, e4, e5⟩
    · rw [y2] at k; exact absurd h0 k
    · rw [e1, List.length_append, List.length_singleton] at e; omega
  | succ l ih =>
    intro N A n h e k h0
    rcases h.up with ⟨y1, y2⟩ | ⟨B, q, M, e1, e2, e3, e4, e5⟩
    · rw [y1] at e; cases e
    · by_cases kq : kK F q = 0
      · rw [kq] at e4
        have : ∀ x, x ∈ kidK 0 → x = 1 ∨ x = 2 ∨ x = 3 := by decide
        exact ⟨n, List.mem_append_right _ List.mem_cons_self, this _ e4⟩
      · have lB : B.length = l := by
          rw [e1, List.length_append, List.length_singleton] at e
          omega
        obtain ⟨p, p1, p2⟩ := ih e5 lB kq h0
        exact ⟨p, List.mem_append_left _ (by rw [e1]; exact p1), p2⟩
theorem PB.b0 {m0 : yM} {T : Nat} {F : List ND} (h0 : kK F 0 = 0) {N : Nat} {A : List Nat} {n i : Nat} {s : SU} (hp : PA m0 T F N A n) (h1 : P1 F (A ++ [n]) i s) (k : ¬ kK F n = 0) : 0 < s.1.1.length := by
  obtain ⟨p, p1, p2⟩ := hp.bk A.length rfl k h0
  exact (h1.2.2.2.2 p p1 p2).1
/-- a look below a statement: blocks, variables and their types stay -/
theorem PB.te {m0 : yM} {T : Nat} {F : List ND} (hF : HF m0 T F) {N : Nat} {A : List Nat} {n : Nat} {s : SU} {σ' : RS} (hp : PA m0 T F N A n) (h : PB F (A ++ [n]) (n + szF F n) s) {p : Nat} (hpm : p ∈ A) (kp : ¬ (kK F p ≤ 10 ∨ kK F p = 30 ∨ kK F p = 31)) (e : lk F A s.1 s.2 n = .inl σ') : TEq s.1 σ' ∧ allD s.1 := by
  obtain ⟨h1, h2, h3, h3b, h4, h5, h6, h7, h8, h9, h10, h11⟩ := h
  have h0 := hF.2.2.1
  obtain ⟨q1, q2, q3, q4⟩ := hp.q0 h0 hpm kp (n + szF F n)
  have nA : n ∈ A ++ [n] := List.mem_append_right _ List.mem_cons_self
  have kn := (h1.1 n hp.lt.1 (Or.inr nA)).1
  have k37 := hp.1.k37
  have hD := allD_of h3 q1
  have fm : fPar A ∈ A := by
    rcases hp.up with ⟨y1, y2⟩ | ⟨B, q, M, e1, e2, e3, e4, e5⟩
    · rw [y1] at hpm; cases hpm
    · rw [e2, e1]; exact List.mem_append_right _ List.mem_cons_self
  have kf := (h1.1 _ (hp.lt.2 _ fm) (Or.inr (List.mem_append_left _ fm))).1
  have lo := lk_lo e (by rw [kn]; exact fun z => q2 ((ch37e _ k37).mp z)) (by rw [kn]; exact fun z => q3 ((nI_eq (b := 5) (by omega) (by omega)).mp z)) (by
    rw [kn, kf]
    rintro ⟨z1, z2⟩
    have := hF.2.1 _ (hp.lt.2 _ fm)
    exact q4 ⟨(nI_eq (b := 6) (by omega) (by omega)).mp z1, (nI_eq (b := 5) (by omega) (by omega)).mp z2⟩)
  refine ⟨⟨lo.1, lo.2.1, fun v hv => ?_⟩, hD⟩
  obtain ⟨-, y, hy⟩ := (vOk_i s.1 v).mp (hD v hv)
  rw [vD_s hy]
  exact P5.t hp h1 h5 e hy
/-- inputs that are told before -/
def P13 (F : List ND) (A : List Nat) (i : Nat) (s : SU) : Prop := ∀ p j, p ∈ A → kK F p = 13 → j ∈ kids F p → j < i → j ∉ A → ∀ v, fVar s.1 (vF F p) = nI v → v < s.1.2.1.length → frm s.1 v = 10 → ¬ prt s.1 (s.1.2.2.2.1 (vD s.1 v).2.1) (vF F j) 1 = -1 ∧ s.1.2.2.2.1 j = (vD s.1 v).2.2.2 + (prt s.1 (s.1.2.2.2.1 (vD s.1 v).2.1) (vF F j) 1 >>> ((2 : Int32) &&& 31))
theorem P13.b {m0 : yM} {T : Nat} {F : List ND} (h0 : kK F 0 = 0) {N : Nat} {A : List Nat} {n : Nat} {s : SU} {σ : RS} (hp : PA m0 T F N A n) (h1 : P1 F A n s) (h : P13 F A n s) (e : jb s n = .inl σ) : P13 F (A ++ [n]) (n + 1) (σ, s.2) := by
  have kn := (h1.1 n hp.lt.1 (Or.inl (Nat.le_refl _))).1
  intro p j hpm kp jk j1 j2
  obtain ⟨j1, j2⟩ := mem_b j1 j2
  have pA : p ∈ A := by
    rcases List.mem_append.mp hpm with y | y
    · exact y
    · rw [List.mem_singleton.mp y] at jk
      have := (hp.1.kin jk).1
      omega
  unfold jb at e
  by_cases q : bkN (s.1.2.2.1 n)
  · have kb : kK F n = 1 ∨ kK F n = 2 ∨ kK F n = 3 := by rw [kn] at q; exact (ch37e _ hp.1.k37).mp q
    have eA := hp.blk h0 kb
    rw [eA] at pA
    rw [List.mem_singleton.mp pA, h0] at kp
    omega
  · rw [if_neg q] at e
    rw [inl_e e]
    exact h p j pA kp jk j1 j2
theorem lkS_14 {F : List ND} {A : List Nat} {σ : RS} {n : Nat} (h : σ.2.2.1 n = 14) : lkS F A σ n = lkPrm F σ A n := by
  unfold lkS; rw [h, if_neg (by decide), if_neg (by decide), if_pos rfl]
theorem lkS_13 {F : List ND} {A : List Nat} {σ : RS} {n : Nat} (h : σ.2.2.1 n = 13) : lkS F A σ n = lkInv σ n := by
  unfold lkS; rw [h, if_neg (by decide), if_pos rfl]
theorem PB.fm {m0 : yM} {T : Nat} {F : List ND} (hF : HF m0 T F) {A : List Nat} {i : Nat} {s : SU} (h : PB F A i s) (hi : i ≤ F.length) : ∀ b, b < s.1.1.length → (s.1.1.getD b dBK).2.2.2.2 ≤ endV s.1 b ∧ endV s.1 b ≤ s.1.2.1.length := by
  intro b hb
  refine ⟨?_, (h.nb hF hi).2.2.1 b hb⟩
  unfold endV
  by_cases z : b + 1 < s.1.1.length
  · rw [if_pos z]; exact h.2.1.2.2.2.2.1 b z
  · rw [if_neg z]; exact h.2.1.2.2.2.1 b hb
theorem P13.l {m0 : yM} {T : Nat} {F : List ND} (hF : HF m0 T F) {N : Nat} {A : List Nat} {n : Nat} {s : SU} {σ' : RS} (hp : PA m0 T F N A n) (h : PB F (A ++ [n]) (n + szF F n) s) (hq : P13 F (A ++ [n]) (n + szF F n) s) (e : lk F A s.1 s.2 n = .inl σ') : P13 F A (n + szF F n) (σ', nU s.1 s.2 n) := by
  have hb := h
  have h1 := h.1
  have at' := hp.1.at
  have hn := hp.lt.1
  have nA : n ∈ A ++ [n] := List.mem_append_right _ List.mem_cons_self
  obtain ⟨kn, vn, tn⟩ := h1.1 n hn (Or.inr nA)
  obtain ⟨n1, n2, n3, n4⟩ := hb.nb hF at'.1
  obtain ⟨e1, -⟩ := lk_ef e (fun z => by
    rw [kn] at z
    exact (h1.2.2.2.2 n nA ((ch37e _ hp.1.k37).mp z)).2.1)
  intro p j pA kp jk j1 j2 v hv hv2 hf
  have gv : fVar σ' (vF F p) = nI v := hv
  have gv2 : v < σ'.2.1.length := hv2
  have gf : frm σ' v = 10 := hf
  clear hv hv2 hf
  obtain ⟨te, hD⟩ := hb.te hF hp pA (by omega) e
  rw [te.2.1] at gv2
  rw [te.fv] at gv
  rw [te.fr gv2] at gf
  show ¬ prt σ' (σ'.2.2.2.1 (vD σ' v).2.1) (vF F j) 1 = -1 ∧ σ'.2.2.2.1 j = (vD σ' v).2.2.2 + (prt σ' (σ'.2.2.2.1 (vD σ' v).2.1) (vF F j) 1 >>> ((2 : Int32) &&& 31))
  have bt := (hb.pv hF).2.2 v (hD v gv2) gf
  rw [te.v, (te.2.2 v gv2).2.1, te.pr (hb.fm hF at'.1) (fun z => by
    obtain ⟨k, k1, k2⟩ := bt
    rw [k1] at z ⊢
    have := (nI_leI (a := 9) (by omega) (by omega)).mp z
    rw [show nI k - 9 = nI (k - 9) from nI_sub (b := 9) this, nI_clamp (by omega)]
    omega)]
  by_cases ne : j = n
  · subst ne
    have fp := hp.par pA jk
    have kj : kK F j = 14 := by
      have := hp.2.2 p pA
      obtain ⟨-, -, M, hM⟩ := this
      have ok := hM.ok
      rw [kp] at ok
      exact hM.mk ok.2 jk
    have kps := h1.1 p (hp.lt.2 p pA) (Or.inr (List.mem_append_left _ pA))
    rw [lk_s (by rw [kn, kj]; decide), lkS_14 (by rw [kn, kj]; rfl)] at e
    unfold lkPrm at e
    rw [fp, kps.2.1, vn] at e
    have cv : (fVar s.1 (vF F p)).toNatClampNeg = v := by rw [gv]; exact nI_clamp (by omega)
    rw [if_neg (by rw [gv]; exact nI_m1 (by omega)), cv, if_pos gf] at e
    unfold lkPrmP at e
    split at e
    · cases e
    rename_i c1
    split at e
    · cases e
    split at e
    · refine ⟨c1, ?_⟩
      rw [inl_e e]
      show upI _ j _ j = _
      rw [upI_n]
    · cases e
  · rw [(e1 j ne).2]
    exact hq p j (List.mem_append_left _ pA) kp jk j1 (mem_l j2 ne) v gv gv2 gf
/-- all that is known on the way -/
def PAll (F : List ND) (A : List Nat) (i : Nat) (s : SU) : Prop := PB F A i s ∧ P12 F A i s ∧ P13 F A i s ∧ P14 F s
theorem PAll.b {m0 : yM} {T : Nat} {F : List ND} (hF : HF m0 T F) {N : Nat} {A : List Nat} {n : Nat} {s : SU} {σ : RS} (hp : PA m0 T F N A n) (h : PAll F A n s) (e : jb s n = .inl σ) : PAll F (A ++ [n]) (n + 1) (σ, s.2) := by
  obtain ⟨⟨h1, h2, h3, h3b, h4, h5, h6, h7, h8, h9, h10, h11⟩, h12, h13, h14⟩ := h
  obtain ⟨f1, f2, f3, f4, f5, f6, f7, f8⟩ := hF
  have f8' : ∀ i, i ≤ F.length → cntF (vB F) i ≤ 4096 := fun i hi => Nat.le_succ_of_le (f8 i hi)
  exact ⟨⟨P1.b f3 hp h1 e, P2.b f7 hp h1 h2 e, P3.b f3 hp h1 h3 e, P3b.b f3 hp h1 h3b e, P4.b (F := F) h2.2.2.2.1 (fun b hb => h2.2.2.2.1 _ hb) h4 e, P5.b hp h1 f6 h5 e, P6.b f3 hp h1 h6 e, P7.b f3 hp h1 h7 e, P8.b f3 hp h1 h8 e, P9.b f3 hp h1 h2 h9 e, P10.b h10 e, P11.b h2.2.2.2.1 h11 e⟩, P12.b f3 hp h1 h12 e, P13.b f3 hp h1 h13 e, P14.b h14 e⟩
theorem PAll.l {m0 : yM} {T : Nat} {F : List ND} (hF : HF m0 T F) {N : Nat} {A : List Nat} {n : Nat} {s : SU} {σ' : RS} (hp : PA m0 T F N A n) (h : PAll F (A ++ [n]) (n + szF F n) s) (e : lk F A s.1 s.2 n = .inl σ') : PAll F A (n + szF F n) (σ', nU s.1 s.2 n) := by
  have hb := h.1
  obtain ⟨⟨h1, h2, h3, h3b, h4, h5, h6, h7, h8, h9, h10, h11⟩, h12, h13, h14⟩ := h
  have hF0 := hF
  obtain ⟨f1, f2, f3, f4, f5, f6, f7, f8⟩ := hF
  have f8' : ∀ i, i ≤ F.length → cntF (vB F) i ≤ 4096 := fun i hi => Nat.le_succ_of_le (f8 i hi)
  have B0 : ¬ kK F n = 0 → 0 < s.1.1.length := fun k => PB.b0 f3 hp h1 k
  have p2 := P2.l hp h1 h2 e
  exact ⟨⟨P1.l f2 hp h1 e, p2, P3.l f2 f3 hp h1 h3 e, P3b.l f2 f3 hp h1 p2 h3b e, P4.l f2 f3 f8' hp h1 h2 h3 h4 e, P5.l f2 f3 hp h1 h3 h5 e, P6.l f2 f7 hp h1 h2 h6 e, P7.l f3 f5 hp h1 h7 e, P8.l f2 f3 f5 f8' f7 hp h1 h2 h3 h3b h6 h7 h9 h8 e, P9.l f2 f3 f4 f7 f8' hp h1 h2 h3 h3b h6 h7 h9 e, P10.l hF0 hp hb B0 e, P11.l f2 f3 hp h1 h3 h11 e⟩, P12.l hF0 hp hb B0 h12 e, P13.l hF0 hp hb h13 e, P14.l hF0 hp h1 h14 e⟩
