/-! THE RULES' INVARIANTS: types of described variables -/
/-- a described variable's section and type -/
def P5 (F : List ND) (A : List Nat) (i : Nat) (s : SU) : Prop := ∀ (v : Nat) (y : Int32 × Nat × Int32 × Int32), (s.1.2.1.getD v dVK).2 = some y → y.2.1 < F.length ∧ (kK F y.2.1 = 8 ∨ kK F y.2.1 = 9 ∨ kK F y.2.1 = 10) ∧ (y.1 = 0 ∨ y.1 = 1 ∨ y.1 = 2 ∨ y.1 = 3) ∧ (¬ y.1 = 0 → kK F y.2.1 = 8) ∧ (kK F y.2.1 = 8 ∨ (y.2.1 + szF F y.2.1 ≤ i ∧ y.2.1 ∉ A))
theorem fun_8 {m0 : yM} {T : Nat} {F : List ND} {N n : Nat} (h : TW m0 T F N n) (hk : kK F n = 1) : n + 1 < F.length ∧ kK F (n + 1) = 8 ∧ n + 1 ∈ kids F n := by
  cases N with
  | zero => exact absurd h (fun z => z)
  | succ N =>
    obtain ⟨w1, w2, w3, w4, w5, w6, w7⟩ := h
    rw [hk] at w5
    obtain ⟨-, s, b, eks, -, -⟩ := w5
    cases hq : kids F n with
    | nil => rw [hq] at eks; simp at eks
    | cons c L =>
      rw [hq] at w6 eks w7
      obtain ⟨rfl, -⟩ := w6
      rw [List.map_cons] at eks
      have z := (w7 (n + 1) List.mem_cons_self).at
      exact ⟨by omega, (List.cons.inj eks).1, List.mem_cons_self⟩
theorem P5.b {m0 : yM} {T : Nat} {F : List ND} {N : Nat} {A : List Nat} {n : Nat} {s : SU} {σ : RS} (hp : PA m0 T F N A n) (h1 : P1 F A n s) (hz : ∀ j, j < F.length → 0 < szF F j) (h : P5 F A n s) (e : jb s n = .inl σ) : P5 F (A ++ [n]) (n + 1) (σ, s.2) := by
  have kn := (h1.1 n hp.lt.1 (Or.inl (Nat.le_refl _))).1
  have k37 := hp.1.k37
  have old : ∀ (v : Nat) (y : Int32 × Nat × Int32 × Int32), (s.1.2.1.getD v dVK).2 = some y → y.2.1 < F.length ∧ (kK F y.2.1 = 8 ∨ kK F y.2.1 = 9 ∨ kK F y.2.1 = 10) ∧ (y.1 = 0 ∨ y.1 = 1 ∨ y.1 = 2 ∨ y.1 = 3) ∧ (¬ y.1 = 0 → kK F y.2.1 = 8) ∧ (kK F y.2.1 = 8 ∨ (y.2.1 + szF F y.2.1 ≤ n + 1 ∧ y.2.1 ∉ A ++ [n])) := by
    intro v y hy
    obtain ⟨a1, a2, a3, a4, a5⟩ := h v y hy
    refine ⟨a1, a2, a3, a4, a5.imp id (fun z => ⟨by omega, fun w => ?_⟩)⟩
    rcases List.mem_append.mp w with w | w
    · exact z.2 w
    · have := List.mem_singleton.mp w
      have p := hz _ a1
      have := z.1
      omega
  unfold jb at e
  split at e
  · unfold lkBeg at e
    split at e
    · cases e
    split at e
    · cases e
    · rw [inl_e e]
      intro v y hy
      have hy : ((beg s.1 n (s.1.2.2.1 n) (s.1.2.2.2.1 n)).2.1.getD v dVK).2 = some y := hy
      rw [beg_at] at hy
      by_cases c : s.1.2.2.1 n = 1 ∧ v = s.1.2.1.length
      · rw [if_pos c] at hy
        have ey := Option.some.inj hy
        rw [← ey]
        have k1 : kK F n = 1 := by have := c.1; rw [kn] at this; exact (nI_eq (b := 1) (by omega) (by omega)).mp this
        obtain ⟨f1, f2, -⟩ := fun_8 hp.1 k1
        exact ⟨f1, Or.inl f2, Or.inr (Or.inr (Or.inr rfl)), fun _ => f2, Or.inl f2⟩
      · rw [if_neg c] at hy
        exact old v y hy
  · rw [inl_e e]
    exact old
theorem P5.l {m0 : yM} {T : Nat} {F : List ND} (hK : K37 F) (h0 : kK F 0 = 0) {N : Nat} {A : List Nat} {n : Nat} {s : SU} {σ' : RS} (hp : PA m0 T F N A n) (h1 : P1 F (A ++ [n]) (n + szF F n) s) (h3 : P3 F (A ++ [n]) (n + szF F n) s) (h : P5 F (A ++ [n]) (n + szF F n) s) (e : lk F A s.1 s.2 n = .inl σ') : P5 F A (n + szF F n) (σ', nU s.1 s.2 n) := by
  have hn := hp.lt.1
  have k37 := hp.1.k37
  have nA : n ∈ A ++ [n] := List.mem_append_right _ List.mem_cons_self
  have kn := (h1.1 n hn (Or.inr nA)).1
  have old : ∀ (v : Nat) (y : Int32 × Nat × Int32 × Int32), (s.1.2.1.getD v dVK).2 = some y → y.2.1 < F.length ∧ (kK F y.2.1 = 8 ∨ kK F y.2.1 = 9 ∨ kK F y.2.1 = 10) ∧ (y.1 = 0 ∨ y.1 = 1 ∨ y.1 = 2 ∨ y.1 = 3) ∧ (¬ y.1 = 0 → kK F y.2.1 = 8) ∧ (kK F y.2.1 = 8 ∨ (y.2.1 + szF F y.2.1 ≤ n + szF F n ∧ y.2.1 ∉ A)) := by
    intro v y hy
    obtain ⟨a1, a2, a3, a4, a5⟩ := h v y hy
    exact ⟨a1, a2, a3, a4, a5.imp id (fun z => ⟨z.1, fun w => z.2 (List.mem_append_left _ w)⟩)⟩
  by_cases k5 : s.1.2.2.1 n = 5
  · obtain ⟨l1, -, l3⟩ := lk_5 e k5
    have kk : kK F n = 5 := by rw [kn] at k5; exact (nI_eq (b := 5) (by omega) (by omega)).mp k5
    have q := qN_5 hK h0 hp h1 kk
    have le := h3.1
    rw [q] at le
    obtain ⟨b, g, eA, kb, kg, gb, ng⟩ := hp.dcl h0 kk
    obtain ⟨k, e0, t, d1, d2, d3, d4, d5, d6, d7, d8⟩ := dcl_s hp.1 kk
    obtain ⟨c1, c2, c3⟩ := dcT0_e hK hp.1 h1 d2 d3 d8
    have tl : t < n + szF F n ∧ n < t ∧ t + szF F t ≤ n + szF F n := by
      have at' := hp.1.at
      rcases d4 with ⟨z1, z2, z3⟩ | ⟨z1, z2⟩
      · rcases d7 with ⟨y, -⟩ | ⟨y, -⟩
        · omega
        · have : t ∈ kids F n := List.mem_of_getElem? d5
          have p : 0 < szF F t := by
            obtain ⟨M, -, hM⟩ := TW.all N n hp.1 t (by omega) (by
              cases N with
              | zero => exact absurd hp.1 (fun z => z)
              | succ N =>
                have tm := tile.mem hp.1.2.2.2.2.2.1 t this
                have := (hp.1.2.2.2.2.2.2 t this).at.2
                omega)
            exact hM.at.2
          omega
      · rcases d7 with ⟨y, -⟩ | ⟨y, -⟩ <;> omega
    have at' := hp.1.at
    have kdt : s.1.2.2.1 t = 8 → kK F t = 8 := by
      intro z
      rcases h1.2.1 t (by omega) with y | ⟨y, -⟩
      · rw [y] at z; exact (nI_eq (b := 8) (by have := hK t (by omega); omega) (by omega)).mp z
      · rw [y] at z; exact absurd z (by decide)
    have et : dcT F s.1 n = t := by
      unfold dcT
      rw [c1]
      have kd7 : s.1.2.2.1 (n + 1 + k) = 7 ↔ kK F (n + 1 + k) = 7 := by
        rcases h1.2.1 (n + 1 + k) (by omega) with y | ⟨y, z⟩
        · rw [y]; exact nI_eq (b := 7) (by have := hK (n + 1 + k) (by omega); omega) (by omega)
        · rw [y]; exact ⟨fun w => absurd w (by decide), fun w => by omega⟩
      rcases d4 with ⟨z1, z2, z3⟩ | ⟨z1, z2⟩
      · rw [if_pos (kd7.mpr z1), z3]
      · rw [if_neg (fun w => by have := kd7.mp w; rw [← z2] at this; omega), z2]
    have gA : fPar A = g ∧ g ∈ A := by rw [eA]; exact ⟨rfl, by simp⟩
    have gl := hp.lt.2 g gA.2
    have sv := (h1.1 g gl (Or.inr (List.mem_append_left _ gA.2))).2.1
    have s3 : vF F g = 0 ∨ vF F g = 1 ∨ vF F g = 2 := by
      obtain ⟨-, -, M, hM⟩ := hp.2.2 g gA.2
      cases M with
      | zero => exact absurd hM (fun z => z)
      | succ M =>
        have ok := hM.2.2.2.2.1
        rw [kg] at ok
        exact ok.2.1
    rw [et, gA.1, sv] at l3
    intro v y hy
    have hy : (σ'.2.1.getD v dVK).2 = some y := hy
    rw [l1] at hy
    unfold dcS at hy
    obtain ⟨o1, o2, o3⟩ := dsL_v (dcAt F s.1 n) (dcT F s.1 n) (s.1.2.2.2.1 (fPar A)) (dcIni F s.1 n) (dcT0 F s.1 n - n - 1) (s.1.2.1.length - (dcT0 F s.1 n - n - 1)) s.1 (by omega) v
    by_cases c : s.1.2.1.length - (dcT0 F s.1 n - n - 1) ≤ v ∧ v < s.1.2.1.length - (dcT0 F s.1 n - n - 1) + (dcT0 F s.1 n - n - 1)
    · obtain ⟨x, hx⟩ := o3 c
      rw [hx] at hy
      have ey := Option.some.inj hy
      rw [← ey]
      dsimp only
      rw [et, gA.1, sv]
      refine ⟨by omega, d6, ?_, fun z => kdt (Decidable.byContradiction (fun w => l3 ⟨z, w⟩)), Or.inr ⟨tl.2.2, fun w => ?_⟩⟩
      · rcases s3 with z | z | z
        · exact Or.inl z
        · exact Or.inr (Or.inl z)
        · exact Or.inr (Or.inr (Or.inl z))
      · have := (hp.2.2 t w).1
        omega
    · rw [o2 c] at hy
      exact old v y hy
  · by_cases k6 : s.1.2.2.1 n = 6 ∧ s.1.2.2.1 (fPar A) = 5
    · obtain ⟨l1, -⟩ := lk_6 e k6.1 k6.2
      intro v y hy
      have hy : (σ'.2.1.getD v dVK).2 = some y := hy
      rw [l1, decl_at] at hy
      split at hy
      · cases hy
      · exact old v y hy
    · have vs := lk_v e k5 k6
      intro v y hy
      have hy : (σ'.2.1.getD v dVK).2 = some y := hy
      rw [vs] at hy
      exact old v y hy
