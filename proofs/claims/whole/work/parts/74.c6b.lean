/-! THE RULES' INVARIANTS: names that stand for no variable -/
theorem TW.nest {m0 : yM} {T : Nat} {F : List ND} : ∀ (N c : Nat), TW m0 T F N c → ∀ q, c ≤ q → q < c + szF F c → q + szF F q ≤ c + szF F c := by
  intro N
  induction N with
  | zero => intro c h; exact absurd h (fun z => z)
  | succ N ih =>
    intro c h q h1 h2
    by_cases e : q = c
    · rw [e]; exact Nat.le_refl _
    · have h0 := h
      obtain ⟨w1, w2, w3, w4, w5, w6, w7⟩ := h
      have go : ∀ (L : List Nat) (a : Nat), tile F L a (c + szF F c) → (∀ x, x ∈ L → x ∈ kids F c) → a ≤ q → q + szF F q ≤ c + szF F c := by
        intro L
        induction L with
        | nil => intro a ht _ ha; have ht : a = c + szF F c := ht; omega
        | cons x L ihL =>
          intro a ht hx ha
          obtain ⟨rfl, ht⟩ := ht
          have xm := hx x List.mem_cons_self
          rcases Nat.lt_or_ge q (x + szF F x) with y | y
          · have := ih x (w7 x xm) q ha y
            have := (h0.kin xm).2.2.1
            omega
          · exact ihL _ ht (fun q hq => hx q (List.mem_cons_of_mem _ hq)) y
      exact go (kids F c) (c + 1) w6 (fun _ hx => hx) (by omega)
/-- whoever holds n is on the path -/
theorem PA.anc {m0 : yM} {T : Nat} {F : List ND} : ∀ (l : Nat) {N : Nat} {A : List Nat} {n : Nat}, PA m0 T F N A n → A.length = l → ∀ q, q < n → n < q + szF F q → q ∈ A := by
  intro l
  induction l with
  | zero =>
    intro N A n h e q h1 h2
    rcases h.up with ⟨y1, y2⟩ | ⟨B, p, M, e1, e2, e3, e4, e5⟩
    · omega
    · rw [e1, List.length_append, List.length_singleton] at e; omega
  | succ l ih =>
    intro N A n h e q h1 h2
    rcases h.up with ⟨y1, y2⟩ | ⟨B, p, M, e1, e2, e3, e4, e5⟩
    · omega
    · have lB : B.length = l := by
        rw [e1, List.length_append, List.length_singleton] at e
        omega
      have z := e5.1.kin e3
      rcases Nat.lt_trichotomy q p with w | w | w
      · rw [e1]
        exact List.mem_append_left _ (ih e5 lB q w (by omega))
      · rw [e1, w]
        exact List.mem_append_right _ List.mem_cons_self
      · exfalso
        have go : ∀ (L : List Nat) (a : Nat), tile F L a (p + szF F p) → (∀ x, x ∈ L → x ∈ kids F p) → a ≤ q → ∃ c, c ∈ kids F p ∧ c ≤ q ∧ q < c + szF F c := by
          intro L
          induction L with
          | nil => intro a ht _ ha; have ht : a = p + szF F p := ht; omega
          | cons x L ihL =>
            intro a ht hx ha
            obtain ⟨rfl, ht⟩ := ht
            rcases Nat.lt_or_ge q (x + szF F x) with y | y
            · exact ⟨x, hx x List.mem_cons_self, ha, y⟩
            · exact ihL _ ht (fun q hq => hx q (List.mem_cons_of_mem _ hq)) y
        obtain ⟨c, c1, c2, c3⟩ := go (kids F p) (p + 1) e5.1.til (fun _ hx => hx) (by omega)
        have t := tile_ne _ _ e5.1.til c n c1 e3 (by omega)
        obtain ⟨M', -, hM'⟩ := TW.all M p e5.1 c (by have := (e5.1.kin c1).1; omega) (e5.1.kin c1).2.1
        have := TW.nest M' c hM' q c2 c3
        omega
theorem PA.one {m0 : yM} {T : Nat} {F : List ND} (hW : HW m0 T F) {N : Nat} {A : List Nat} {n q : Nat} (h : PA m0 T F N A n) (hq : q < F.length) (hk : n ∈ kids F q) : q ∈ A ∧ fPar A = q := by
  obtain ⟨M, hM⟩ := hW q hq
  have z := hM.kin hk
  have m := h.anc A.length rfl q z.1 z.2.1
  exact ⟨m, h.par m hk⟩
/-- names that stand for no variable -/
def xNm (F : List ND) (j : Nat) : Prop := kK F j = 6 ∧ ∃ p, p < F.length ∧ j ∈ kids F p ∧ (kK F p = 5 ∨ kK F p = 33)
/-- such names stay as they were read -/
def P14 (F : List ND) (s : SU) : Prop := ∀ j, j < F.length → xNm F j → s.1.2.2.2.1 j = vF F j
theorem P14.b {F : List ND} {s : SU} {σ : RS} {n : Nat} (h : P14 F s) (e : jb s n = .inl σ) : P14 F (σ, s.2) := by
  unfold jb at e
  split at e
  · unfold lkBeg at e
    split at e
    · cases e
    split at e
    · cases e
    · have e' := inl_e e
      obtain ⟨-, -, -, -, -, y6, -⟩ := beg_y s.1 n (s.1.2.2.1 n) (s.1.2.2.2.1 n)
      rw [← e'] at y6
      intro j hj hk
      show σ.2.2.2.1 j = _
      rw [y6]
      exact h j hj hk
  · rw [inl_e e]; exact h
theorem P14.l {m0 : yM} {T : Nat} {F : List ND} (hF : HF m0 T F) {N : Nat} {A : List Nat} {n : Nat} {s : SU} {σ' : RS} (hp : PA m0 T F N A n) (h1 : P1 F (A ++ [n]) (n + szF F n) s) (h : P14 F s) (e : lk F A s.1 s.2 n = .inl σ') : P14 F (σ', nU s.1 s.2 n) := by
  have nA : n ∈ A ++ [n] := List.mem_append_right _ List.mem_cons_self
  obtain ⟨kn, vn, tn⟩ := h1.1 n hp.lt.1 (Or.inr nA)
  obtain ⟨e1, -⟩ := lk_ef e (fun z => by
    rw [kn] at z
    exact (h1.2.2.2.2 n nA ((ch37e _ hp.1.k37).mp z)).2.1)
  intro j hj hx
  show σ'.2.2.2.1 j = _
  by_cases ne : j = n
  · subst ne
    obtain ⟨k6, p, p1, p2, p3⟩ := hx
    obtain ⟨pA, fp⟩ := hp.one hF.1 p1 p2
    have kp := (h1.1 p p1 (Or.inr (List.mem_append_left _ pA))).1
    rw [lk_6n (by rw [kn, k6]; rfl)] at e
    unfold lkName at e
    rw [fp, kp] at e
    rcases p3 with k | k
    · rw [k, if_neg (by decide), if_pos (show nI 5 = 5 from rfl)] at e
      split at e
      · cases e
      · rw [inl_e e]; exact vn
    · rw [k, if_pos (show nI 33 = 33 from rfl)] at e
      rw [inl_e e]; exact vn
  · rw [(e1 j ne).2]; exact h j hj hx
