/-! THE RULES' INVARIANTS: cells of blocks and of variables -/
/-- a declaration as it is looked at -/
theorem dcl_f {m0 : yM} {T : Nat} {F : List ND} (hK : K37 F) (h0 : kK F 0 = 0) {N : Nat} {A : List Nat} {n : Nat} {s : SU} (hp : PA m0 T F N A n) (h1 : P1 F (A ++ [n]) (n + szF F n) s) (kk : kK F n = 5) : ∃ k t b g, A = [0, b, g] ∧ (kK F b = 1 ∨ kK F b = 2 ∨ kK F b = 3) ∧ kK F g = 4 ∧ 1 ≤ k ∧ dcT0 F s.1 n = n + 1 + k ∧ dcT F s.1 n = t ∧ n < t ∧ t < n + szF F n ∧ t + szF F t ≤ n + szF F n ∧ (kK F t = 8 ∨ kK F t = 9 ∨ kK F t = 10) ∧ (∀ x, x < k → kK F (n + 1 + x) = 6) ∧ n + 1 + k < n + szF F n ∧ ((kK F (n + 1 + k) = 7 ∧ dcAt F s.1 n = s.1.2.2.2.1 (n + 1 + k)) ∨ (¬ kK F (n + 1 + k) = 7 ∧ dcAt F s.1 n = -1)) ∧ qN F (A ++ [n]) (n + szF F n) = k := by
  have q := qN_5 hK h0 hp h1 kk
  obtain ⟨b, g, eA, kb, kg, gb, ng⟩ := hp.dcl h0 kk
  obtain ⟨k, e0, t, d1, d2, d3, d4, d5, d6, d7, d8⟩ := dcl_s hp.1 kk
  obtain ⟨c1, c2, c3⟩ := dcT0_e hK hp.1 h1 d2 d3 d8
  have at' := hp.1.at
  have tl : t < n + szF F n ∧ n < t ∧ t + szF F t ≤ n + szF F n := by
    rcases d4 with ⟨z1, z2, z3⟩ | ⟨z1, z2⟩
    · rcases d7 with ⟨y, -⟩ | ⟨y, -⟩
      · omega
      · have : t ∈ kids F n := List.mem_of_getElem? d5
        have p : 0 < szF F t := by
          obtain ⟨M, -, hM⟩ := TW.all N n hp.1 t (by omega) (by
            cases N with
            | zero => exact absurd hp.1 (fun z => z)
            | succ N =>
              have tm := tile.mem hp.1.2.2.2.2.2.1 t this
              have := (hp.1.2.2.2.2.2.2 t this).at.2
              omega)
          exact hM.at.2
        omega
    · rcases d7 with ⟨y, -⟩ | ⟨y, -⟩ <;> omega
  have kd7 : s.1.2.2.1 (n + 1 + k) = 7 ↔ kK F (n + 1 + k) = 7 := by
    rcases h1.2.1 (n + 1 + k) (by omega) with y | ⟨y, z⟩
    · rw [y]; exact nI_eq (b := 7) (by have := hK (n + 1 + k) (by omega); omega) (by omega)
    · rw [y]; exact ⟨fun w => absurd w (by decide), fun w => by omega⟩
  have n7 : ¬ (e0 = k + 1 ∧ t = n + 1 + k + 1) → ¬ kK F (n + 1 + k) = 7 := by
    intro z w
    rcases d4 with ⟨z1, z2, z3⟩ | ⟨z1, z2⟩
    · exact z ⟨z2, z3⟩
    · rw [← z2] at w; omega
  have et : dcT F s.1 n = t := by
    unfold dcT
    rw [c1]
    rcases d4 with ⟨z1, z2, z3⟩ | ⟨z1, z2⟩
    · rw [if_pos (kd7.mpr z1), z3]
    · rw [if_neg (fun w => by have := kd7.mp w; rw [← z2] at this; omega), z2]
  refine ⟨k, t, b, g, eA, kb, kg, d1, c1, et, tl.2.1, tl.1, tl.2.2, d6, fun x hx => (d2 x hx).2, c3, ?_, by rw [q, c1]; omega⟩
  unfold dcAt
  rw [c1]
  by_cases w : kK F (n + 1 + k) = 7
  · rw [if_pos (kd7.mpr w)]
    exact Or.inl ⟨w, rfl⟩
  · rw [if_neg (fun z => w (kd7.mp z))]
    exact Or.inr ⟨w, rfl⟩
theorem P2.fm {F : List ND} {A : List Nat} {i : Nat} {s : SU} (h : P2 F A i s) {b : Nat} : ∀ (c : Nat), b ≤ c → c < s.1.1.length → (s.1.1.getD b dBK).2.2.2.2 ≤ (s.1.1.getD c dBK).2.2.2.2
  | 0, h1, _ => by rw [show b = 0 by omega]; exact Nat.le_refl _
  | c + 1, h1, h2 => by
    by_cases e : b = c + 1
    · rw [e]; exact Nat.le_refl _
    · exact Nat.le_trans (P2.fm h c (by omega) (by omega)) (h.2.2.2.2.1 c h2)
abbrev wtY (y : Int32 × Nat × Int32 × Int32) : Nat := if y.1 = 0 then 0 else 1
def P9 (F : List ND) (A : List Nat) (s : SU) : Prop := (∀ b, b < s.1.1.length → ∃ c, cB s.1 b = nI c ∧ c ≤ 37052 ∧ ((s.1.1.getD b dBK).1 = 3 → 960 ≤ c)) ∧ (∀ p, p ∈ A → (kK F p = 1 ∨ kK F p = 2 ∨ kK F p = 3) → ∃ c, cB s.1 (s.1.1.length - 1) = nI c ∧ c ≤ 4096) ∧ (∀ v y, (s.1.2.1.getD v dVK).2 = some y → ∃ c, y.2.2.2 = nI c ∧ c ≤ 4096) ∧ (∀ b v y, b < s.1.1.length → ¬ (s.1.1.getD b dBK).1 = 3 → (s.1.1.getD b dBK).2.2.2.2 ≤ v → v < endV s.1 b → (s.1.2.1.getD v dVK).2 = some y → ∃ c d, y.2.2.2 = nI c ∧ cB s.1 b = nI d ∧ c + wtY y ≤ d ∧ d ≤ 37052) ∧ ∀ b v w y z, b < s.1.1.length → ¬ (s.1.1.getD b dBK).1 = 3 → (s.1.1.getD b dBK).2.2.2.2 ≤ v → v < w → w < endV s.1 b → (s.1.2.1.getD v dVK).2 = some y → (s.1.2.1.getD w dVK).2 = some z → ∃ c d, y.2.2.2 = nI c ∧ z.2.2.2 = nI d ∧ c + wtY y ≤ d ∧ d ≤ 37052
theorem beg_c (σ : RS) (n : Nat) (k nm : Int32) : cB (beg σ n k nm) σ.1.length = if k = 3 then 960 else if k = 1 then 1 else 0 := by
  have c0 : (beg0 σ n k nm).1.length = σ.1.length + 1 := by simp [beg0]
  have e0 : cB (beg0 σ n k nm) σ.1.length = if k = 3 then 960 else 0 := by
    unfold cB
    have : (beg0 σ n k nm).1.getD σ.1.length dBK = (k, n, nm, if k = 3 then 960 else 0, σ.2.1.length) := by simp [beg0]
    rw [this]
  unfold beg
  by_cases q : k = 1
  · rw [if_pos q, setC_cB _ (show σ.1.length < (setVr (decl (beg0 σ n k nm) nm) σ.2.1.length (3, n + 1, 0, 0)).1.length by
      show σ.1.length < (beg0 σ n k nm).1.length
      omega), if_pos rfl, if_neg (by rw [q]; decide), if_pos q]
  · rw [if_neg q, if_neg q]
    exact e0
theorem P9.b {m0 : yM} {T : Nat} {F : List ND} (h0 : kK F 0 = 0) {N : Nat} {A : List Nat} {n : Nat} {s : SU} {σ : RS} (hp : PA m0 T F N A n) (h1 : P1 F A n s) (h2 : P2 F A n s) (h : P9 F A s) (e : jb s n = .inl σ) : P9 F (A ++ [n]) (σ, s.2) := by
  have kn := (h1.1 n hp.lt.1 (Or.inl (Nat.le_refl _))).1
  have k37 := hp.1.k37
  obtain ⟨a, b, c, d, f⟩ := h
  unfold jb at e
  by_cases q : bkN (s.1.2.2.1 n)
  · rw [if_pos q] at e
    have kb : kK F n = 1 ∨ kK F n = 2 ∨ kK F n = 3 := by rw [kn] at q; exact (ch37e _ hp.1.k37).mp q
    unfold lkBeg at e
    split at e
    · cases e
    split at e
    · cases e
    · have e' := inl_e e
      obtain ⟨y1, y2, y3, y4, y5, y6, y7⟩ := beg_y s.1 n (s.1.2.2.1 n) (s.1.2.2.2.1 n)
      have yv := beg_v s.1 n (s.1.2.2.1 n) (s.1.2.2.2.1 n)
      have ya := beg_at s.1 n (s.1.2.2.1 n) (s.1.2.2.2.1 n)
      have yc := beg_c s.1 n (s.1.2.2.1 n) (s.1.2.2.2.1 n)
      rw [← e'] at y1 y2 y5 y7 yv ya yc
      have k2 : (σ.1.getD s.1.1.length dBK).1 = s.1.2.2.1 n := by
        unfold curB at y2
        rw [y1, Nat.add_sub_cancel] at y2
        exact y2
      have k5 : (σ.1.getD s.1.1.length dBK).2.2.2.2 = s.1.2.1.length := by
        unfold curB at y5
        rw [y1, Nat.add_sub_cancel] at y5
        exact y5
      have cN : ∃ c, cB σ s.1.1.length = nI c ∧ c ≤ 4096 ∧ (s.1.2.2.1 n = 3 → 960 ≤ c) ∧ (s.1.2.2.1 n = 1 → c = 1) := by
        rw [yc]
        by_cases q3 : s.1.2.2.1 n = 3
        · rw [if_pos q3]
          exact ⟨960, rfl, by omega, fun _ => Nat.le_refl _, fun z => by rw [z] at q3; exact absurd q3 (by decide)⟩
        rw [if_neg q3]
        by_cases q1 : s.1.2.2.1 n = 1
        · rw [if_pos q1]
          exact ⟨1, rfl, by omega, fun z => absurd z q3, fun _ => rfl⟩
        · rw [if_neg q1]
          exact ⟨0, rfl, by omega, fun z => absurd z q3, fun z => absurd z q1⟩
      obtain ⟨cn, cn1, cn2, cn3, cn4⟩ := cN
      have en : ∀ x, x < s.1.1.length → endV σ x = endV s.1 x := by
        intro x hx
        unfold endV
        rw [y1]
        by_cases z : x + 1 < s.1.1.length
        · rw [if_pos (by omega), if_pos z, y7 _ z]
        · rw [if_pos (by omega), if_neg z, show x + 1 = s.1.1.length by omega, k5]
      have vo : ∀ u, u < s.1.2.1.length → σ.2.1.getD u dVK = s.1.2.1.getD u dVK := by
        intro u hu
        rw [ya, if_neg (fun z => by omega)]
      have el : ∀ x, x < s.1.1.length → endV s.1 x ≤ s.1.2.1.length := by
        intro x hx
        unfold endV
        by_cases z : x + 1 < s.1.1.length
        · rw [if_pos z]
          exact h2.2.2.2.1 _ z
        · rw [if_neg z]
          exact Nat.le_refl _
      have old : ∀ u y, (σ.2.1.getD u dVK).2 = some y → (u = s.1.2.1.length ∧ s.1.2.2.1 n = 1 ∧ y = (3, n + 1, 0, 0)) ∨ (s.1.2.1.getD u dVK).2 = some y := by
        intro u y hy
        rw [ya] at hy
        by_cases z : s.1.2.2.1 n = 1 ∧ u = s.1.2.1.length
        · rw [if_pos z] at hy
          exact Or.inl ⟨z.2, z.1, (Option.some.inj hy).symm⟩
        · rw [if_neg z] at hy
          exact Or.inr hy
      have lt : ∀ u y, (s.1.2.1.getD u dVK).2 = some y → u < s.1.2.1.length := by
        intro u y hy
        rcases Nat.lt_or_ge u s.1.2.1.length with z | z
        · exact z
        · rw [List.getD_eq_getElem?_getD, List.getElem?_eq_none_iff.mpr z] at hy
          cases hy
      have cO : ∀ x, x < s.1.1.length → cB σ x = cB s.1 x := fun x hx => by unfold cB; rw [y7 x hx]
      refine ⟨fun x hx => ?_, fun p hpm hk => ?_, fun v y hy => ?_, fun x v y hx h3 hf hv hy => ?_, fun x v w y z hx h3 hf hvw hw hy hz => ?_⟩
      · have hx : x < σ.1.length := hx
        rw [y1] at hx
        show ∃ c, cB σ x = nI c ∧ c ≤ 37052 ∧ ((σ.1.getD x dBK).1 = 3 → 960 ≤ c)
        by_cases z : x < s.1.1.length
        · rw [cO x z, y7 x z]
          exact a x z
        · have : x = s.1.1.length := by omega
          subst this
          exact ⟨cn, cn1, by omega, fun w => cn3 (k2.symm.trans w)⟩
      · show ∃ c, cB σ (σ.1.length - 1) = nI c ∧ c ≤ 4096
        rw [y1, Nat.add_sub_cancel]
        exact ⟨cn, cn1, cn2⟩
      · rcases old v y hy with ⟨w1, w2, w3⟩ | w
        · rw [w3]
          exact ⟨0, rfl, by omega⟩
        · exact c v y w
      · have hx : x < σ.1.length := hx
        have h3 : ¬ (σ.1.getD x dBK).1 = 3 := h3
        have hf : (σ.1.getD x dBK).2.2.2.2 ≤ v := hf
        have hv : v < endV σ x := hv
        have hy : (σ.2.1.getD v dVK).2 = some y := hy
        show ∃ c d, y.2.2.2 = nI c ∧ cB σ x = nI d ∧ c + wtY y ≤ d ∧ d ≤ 37052
        rw [y1] at hx
        by_cases z : x < s.1.1.length
        · rw [y7 x z] at hf h3
          rw [en x z] at hv
          have := el x z
          rw [vo v (by omega)] at hy
          rw [cO x z]
          exact d x v y z h3 hf hv hy
        · have : x = s.1.1.length := by omega
          subst this
          rw [k5] at hf
          rcases old v y hy with ⟨w1, w2, w3⟩ | w
          · refine ⟨0, cn, by rw [w3]; rfl, cn1, ?_, by omega⟩
            rw [cn4 w2, w3]
            exact Nat.le_refl _
          · have := lt v y w
            omega
      · have hx : x < σ.1.length := hx
        have h3 : ¬ (σ.1.getD x dBK).1 = 3 := h3
        have hf : (σ.1.getD x dBK).2.2.2.2 ≤ v := hf
        have hw : w < endV σ x := hw
        have hy : (σ.2.1.getD v dVK).2 = some y := hy
        have hz : (σ.2.1.getD w dVK).2 = some z := hz
        rw [y1] at hx
        by_cases q : x < s.1.1.length
        · rw [y7 x q] at hf h3
          rw [en x q] at hw
          have := el x q
          rw [vo v (by omega)] at hy
          rw [vo w (by omega)] at hz
          exact f x v w y z q h3 hf hvw hw hy hz
        · have : x = s.1.1.length := by omega
          subst this
          rw [k5] at hf
          rcases old w z hz with ⟨w1, w2, w3⟩ | w'
          · omega
          · have := lt w z w'
            omega
  · rw [if_neg q] at e
    rw [inl_e e]
    refine ⟨a, fun p hpm hk => ?_, c, d, f⟩
    rcases List.mem_append.mp hpm with y | y
    · exact b p y hk
    · rw [List.mem_singleton.mp y] at hk
      exact absurd (by rw [kn]; exact (ch37e _ k37).mpr hk) q
theorem x2_n : ∀ k, k < 9 → ∃ z, xar_2.getD k 0 = nI z ∧ z ≤ 6 := by
  intro k hk
  have : ∀ k, k < 9 → xar_2.getD k 0 = nI (if k < 5 then 6 else 3) := by decide
  refine ⟨_, this k hk, ?_⟩
  split <;> omega
/-- the size of a type that is looked at -/
theorem szS_d {F : List ND} {A : List Nat} {i n t : Nat} {s : SU} (h1 : P1 F A i s) (h6 : P6 F A i s) (h9 : P9 F A s) (b4 : s.1.1.length ≤ 399) (ht : t < F.length) (ti : t < i) (tA : t ∉ A) (kt : kK F t = 8 ∨ kK F t = 9 ∨ kK F t = 10) (nA : n ∈ A) (k5 : kK F n = 5) (nt : n < t) : ∃ z, szS s.1 t z ∧ z ≤ 37052 ∧ (kK F t = 8 → z = 1) := by
  have ks : s.1.2.2.1 t = nI (kK F t) := by
    rcases h1.2.1 t ht with y | ⟨y, z⟩
    · exact y
    · omega
  unfold szS szT
  rw [ks]
  rcases kt with k | k | k
  · rw [k, if_pos (show nI 8 = 8 from rfl)]
    exact ⟨1, ⟨rfl, Or.inl rfl⟩, by omega, fun _ => rfl⟩
  · rw [k, if_neg (show ¬ nI 9 = 8 by decide), if_pos (show nI 9 = 9 from rfl)]
    obtain ⟨-, -, z, z1, z2, z3⟩ := h6.1 t ht k ti tA
    exact ⟨z, ⟨z1, Or.inr (Or.inl rfl)⟩, by omega, fun w => by omega⟩
  · rw [k, if_neg (show ¬ nI 10 = 8 by decide), if_neg (show ¬ nI 10 = 9 by decide)]
    obtain ⟨⟨x, x1, x2⟩, x3⟩ := h6.2 t ht k ti tA
    have fb := x3 n nA k5 nt
    have x40 : x < 420 := by omega
    rw [x1] at fb
    obtain ⟨y, y1, y2⟩ := fBlk_2 b4 (x := vF F t) (by rw [← fb]; exact nI_m1 (by omega))
    rw [← fb] at y1
    rcases x2 with x2 | ⟨x2, x4, x5⟩
    · have n9 : ¬ 9 ≤ s.1.2.2.2.1 t := by
        rw [x1]
        intro w
        have := (nI_leI (a := 9) (by omega) (by omega)).mp w
        omega
      obtain ⟨z, z1, z2⟩ := x2_n x x2
      rw [if_neg n9]
      refine ⟨z, ⟨?_, Or.inr (Or.inr (Or.inl n9))⟩, by omega, fun w => by omega⟩
      rw [x1, nI_clamp (by omega)]
      exact z1
    · have i9 : 9 ≤ s.1.2.2.2.1 t := by
        rw [x1]
        exact nI_le (a := 9) x2 (by omega)
      have es : s.1.2.2.2.1 t - 9 = nI (x - 9) := by rw [x1]; exact nI_sub x2
      obtain ⟨c, c1, c2, -⟩ := h9.1 (x - 9) x4
      rw [if_pos i9, es, nI_clamp (by omega)]
      refine ⟨c, ⟨c1, Or.inr (Or.inr (Or.inr ?_))⟩, c2, fun w => by omega⟩
      have yx : x = y := (nI_eq (by omega) (by omega)).mp y1
      omega
