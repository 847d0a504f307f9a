/-! THE RULES' INVARIANTS: own cells of nodes -/
theorem own1_o {b : Nat} : ∀ (n i : Nat) (σ : RS) (c : Nat), b < σ.1.length → cB σ b = nI c → ∃ (d : Nat) (f : Nat → Nat), cB (own1 b n i σ) b = nI d ∧ c ≤ d ∧ d ≤ c + n ∧ (∀ j, i ≤ j → j < i + n → (σ.2.2.1 j = 16 ∨ σ.2.2.1 j = 19) → (own1 b n i σ).2.2.2.2 j = nI (f j) ∧ c ≤ f j ∧ f j < d) ∧ ∀ j j', i ≤ j → j < j' → j' < i + n → (σ.2.2.1 j = 16 ∨ σ.2.2.1 j = 19) → (σ.2.2.1 j' = 16 ∨ σ.2.2.1 j' = 19) → f j < f j'
  | 0, i, σ, c, _, h => ⟨c, fun _ => 0, h, Nat.le_refl _, Nat.le_refl _, fun j h1 h2 => by omega, fun j j' h1 h2 h3 => by omega⟩
  | n + 1, i, σ, c, hb, h => by
    have es : own1 b (n + 1) i σ = own1 b n (i + 1) (if σ.2.2.1 i = 16 ∨ σ.2.2.1 i = 19 then bump σ b i else σ) := rfl
    rw [es]
    by_cases q : σ.2.2.1 i = 16 ∨ σ.2.2.1 i = 19
    · rw [if_pos q]
      have hb' : b < (bump σ b i).1.length := by rw [(BY.bump σ b i).1]; exact hb
      obtain ⟨d, f, d1, d2, d3, f1, f2⟩ := own1_o n (i + 1) (bump σ b i) (c + 1) hb' (by rw [bump_cB σ hb, if_pos rfl, h, nI_1])
      refine ⟨d, fun j => if j = i then c else f j, d1, by omega, by omega, fun j h1 h2 h3 => ?_, fun j j' h1 h2 h3 h4 h5 => ?_⟩
      · dsimp only
        by_cases c0 : j = i
        · rw [if_pos c0, c0]
          refine ⟨?_, Nat.le_refl _, by omega⟩
          rcases (own1_y b n (i + 1) (bump σ b i)).2.2.2.2 i with w | w
          · rw [w]
            show upI _ i _ i = _
            rw [upI_n]
            exact h
          · omega
        · rw [if_neg c0]
          obtain ⟨g1, g2, g3⟩ := f1 j (by omega) (by omega) h3
          exact ⟨g1, by omega, g3⟩
      · have n' : ¬ j' = i := by omega
        dsimp only
        rw [if_neg n']
        by_cases c0 : j = i
        · rw [if_pos c0]
          have := (f1 j' (by omega) (by omega) h5).2.1
          omega
        · rw [if_neg c0]
          exact f2 j j' (by omega) h2 (by omega) h4 h5
    · rw [if_neg q]
      obtain ⟨d, f, d1, d2, d3, f1, f2⟩ := own1_o n (i + 1) σ c hb h
      refine ⟨d, f, d1, d2, by omega, fun j h1 h2 h3 => ?_, fun j j' h1 h2 h3 h4 h5 => ?_⟩
      · by_cases c0 : j = i
        · rw [c0] at h3
          exact absurd h3 q
        · exact f1 j (by omega) (by omega) h3
      · by_cases c0 : j = i
        · rw [c0] at h4
          exact absurd h4 q
        · exact f2 j j' (by omega) h2 (by omega) h4 h5
theorem own2_o {b : Nat} : ∀ (n i : Nat) (σ : RS) (c : Nat), b < σ.1.length → cB σ b = nI c → ∃ d, cB (own2 b n i σ) b = nI d ∧ c ≤ d ∧ d ≤ c + n ∧ ∀ j, i ≤ j → j < i + n → σ.2.2.1 j = 25 → ¬ σ.2.2.2.1 j < 2 → ∃ e, (own2 b n i σ).2.2.2.2 j = nI e ∧ e < d
  | 0, i, σ, c, _, h => ⟨c, h, Nat.le_refl _, Nat.le_refl _, fun j h1 h2 => by omega⟩
  | n + 1, i, σ, c, hb, h => by
    have es : own2 b (n + 1) i σ = own2 b n (i + 1) (if σ.2.2.1 i = 25 ∧ ¬ σ.2.2.2.1 i < 2 then bump σ b i else σ) := rfl
    rw [es]
    by_cases q : σ.2.2.1 i = 25 ∧ ¬ σ.2.2.2.1 i < 2
    · rw [if_pos q]
      have hb' : b < (bump σ b i).1.length := by rw [(BY.bump σ b i).1]; exact hb
      obtain ⟨d, d1, d2, d3, f1⟩ := own2_o n (i + 1) (bump σ b i) (c + 1) hb' (by rw [bump_cB σ hb, if_pos rfl, h, nI_1])
      refine ⟨d, d1, by omega, by omega, fun j h1 h2 h3 h4 => ?_⟩
      by_cases c0 : j = i
      · rw [c0]
        refine ⟨c, ?_, by omega⟩
        rcases (own2_y b n (i + 1) (bump σ b i)).2.2.2.2 i with w | w
        · rw [w]
          show upI _ i _ i = _
          rw [upI_n]
          exact h
        · omega
      · exact f1 j (by omega) (by omega) h3 h4
    · rw [if_neg q]
      obtain ⟨d, d1, d2, d3, f1⟩ := own2_o n (i + 1) σ c hb h
      refine ⟨d, d1, d2, by omega, fun j h1 h2 h3 h4 => ?_⟩
      by_cases c0 : j = i
      · rw [c0] at h3 h4
        exact absurd ⟨h3, h4⟩ q
      · exact f1 j (by omega) (by omega) h3 h4
theorem hasL_1 (K : Nat → Int32) : ∀ (n i : Nat) (a : Int32), a = 0 ∨ a = 1 → (hasL K n i a = 0 ∨ hasL K n i a = 1) ∧ (a = 1 → hasL K n i a = 1) ∧ ((∃ j, i ≤ j ∧ j < i + n ∧ K j = 22) → hasL K n i a = 1)
  | 0, i, a, h => ⟨h, fun z => z, fun ⟨j, h1, h2, _⟩ => by omega⟩
  | n + 1, i, a, h => by
    have es : hasL K (n + 1) i a = hasL K n (i + 1) (a ||| (if K i = 22 then 1 else 0)) := rfl
    rw [es]
    have k : (a ||| (if K i = 22 then 1 else 0) = 0 ∨ a ||| (if K i = 22 then 1 else 0) = 1) ∧ (a = 1 → a ||| (if K i = 22 then 1 else 0) = 1) ∧ (K i = 22 → a ||| (if K i = 22 then 1 else 0) = 1) := by
      by_cases c : K i = 22
      · rw [if_pos c]
        rcases h with rfl | rfl
        · exact ⟨Or.inr (by decide), fun _ => by decide, fun _ => by decide⟩
        · exact ⟨Or.inr (by decide), fun _ => by decide, fun _ => by decide⟩
      · rw [if_neg c]
        rcases h with rfl | rfl
        · exact ⟨Or.inl (by decide), fun z => absurd z (by decide), fun z => absurd z c⟩
        · exact ⟨Or.inr (by decide), fun _ => by decide, fun z => absurd z c⟩
    obtain ⟨i1, i2, i3⟩ := hasL_1 K n (i + 1) _ k.1
    refine ⟨i1, fun z => i2 (k.2.1 z), fun ⟨j, h1, h2, h3⟩ => ?_⟩
    by_cases c : j = i
    · rw [c] at h3
      exact i2 (k.2.2 h3)
    · exact i3 ⟨j, by omega, by omega, h3⟩
theorem ownC_o {σ : RS} {b : Nat} (hb : b < σ.1.length) {c : Nat} (h : cB σ b = nI c) (i n : Nat) : ∃ (d : Nat) (f : Nat → Nat), cB (ownC σ b i n) b = nI d ∧ d ≤ c + 2 * n + 156 ∧ (∀ j, i ≤ j → j < i + n → (σ.2.2.1 j = 16 ∨ σ.2.2.1 j = 19) → (ownC σ b i n).2.2.2.2 j = nI (f j) ∧ c ≤ f j ∧ f j < d) ∧ (∀ j j', i ≤ j → j < j' → j' < i + n → (σ.2.2.1 j = 16 ∨ σ.2.2.1 j = 19) → (σ.2.2.1 j' = 16 ∨ σ.2.2.1 j' = 19) → f j < f j') ∧ (∀ j, i ≤ j → j < i + n → σ.2.2.1 j = 25 → ¬ σ.2.2.2.1 j < 2 → ∃ e, (ownC σ b i n).2.2.2.2 j = nI e ∧ e < d) ∧ ((∃ j, i ≤ j ∧ j < i + n ∧ σ.2.2.1 j = 22) → 156 ≤ d) := by
  obtain ⟨d1, f, a1, a2, a3, a4, a5⟩ := own1_o n i σ c hb h
  have y1 := own1_y b n i σ
  have hb1 : b < (own1 b n i σ).1.length := by rw [y1.1.1]; exact hb
  obtain ⟨d2, b1, b2, b3, b4⟩ := own2_o n i (own1 b n i σ) d1 hb1 a1
  have y2 := own2_y b n i (own1 b n i σ)
  have hb2 : b < (own2 b n i (own1 b n i σ)).1.length := by rw [y2.1.1]; exact hb1
  have hl := hasL_1 σ.2.2.1 n i 0 (Or.inl rfl)
  have ec : ∃ d, cB (ownC σ b i n) b = nI d ∧ d2 ≤ d ∧ d ≤ d2 + 156 ∧ ((∃ j, i ≤ j ∧ j < i + n ∧ σ.2.2.1 j = 22) → 156 ≤ d) := by
    unfold ownC
    rw [setC_cB _ hb2, if_pos rfl, b1]
    by_cases c0 : hasL σ.2.2.1 n i 0 = 0
    · rw [if_pos c0]
      refine ⟨d2, nI_add d2 0, Nat.le_refl _, by omega, fun z => ?_⟩
      have := hl.2.2 z
      rw [c0] at this
      exact absurd this (by decide)
    · rw [if_neg c0]
      exact ⟨d2 + 156, nI_add d2 156, by omega, Nat.le_refl _, fun _ => by omega⟩
  obtain ⟨d, e1, e2, e3, e4⟩ := ec
  have et : ∀ j, (ownC σ b i n).2.2.2.2 j = (own2 b n i (own1 b n i σ)).2.2.2.2 j := fun j => rfl
  refine ⟨d, f, e1, by omega, fun j h1 h2 h3 => ?_, a5, fun j h1 h2 h3 h4 => ?_, e4⟩
  · obtain ⟨g1, g2, g3⟩ := a4 j h1 h2 h3
    refine ⟨?_, g2, by omega⟩
    rw [et]
    rcases y2.2.2.2.2 j with w | ⟨-, -, w⟩
    · rw [w]
      exact g1
    · rw [y1.2.2.1] at w
      rcases h3 with z | z <;> rw [z] at w <;> exact absurd w (by decide)
  · obtain ⟨e, g1, g2⟩ := b4 j h1 h2 (by rw [y1.2.2.1]; exact h3) (by rw [y1.2.2.2.1]; exact h4)
    exact ⟨e, by rw [et]; exact g1, by omega⟩
/-- the own cells of a block's nodes -/
def oCl (F : List ND) (σ : RS) (b n : Nat) : Prop := ∃ (c0 d : Nat) (f : Nat → Nat), cB σ b = nI d ∧ d ≤ 37052 ∧ (∀ v y, (σ.1.getD b dBK).2.2.2.2 ≤ v → v < endV σ b → (σ.2.1.getD v dVK).2 = some y → ∃ c z, y.2.2.2 = nI c ∧ szT σ y.2.1 = nI z ∧ c + z ≤ c0) ∧ c0 ≤ 37052 ∧ (∀ j, n ≤ j → j < n + szF F n → (σ.2.2.1 j = 16 ∨ σ.2.2.1 j = 19) → σ.2.2.2.2 j = nI (f j) ∧ c0 ≤ f j ∧ f j < d) ∧ (∀ j j', n ≤ j → j < j' → j' < n + szF F n → (σ.2.2.1 j = 16 ∨ σ.2.2.1 j = 19) → (σ.2.2.1 j' = 16 ∨ σ.2.2.1 j' = 19) → f j < f j') ∧ (∀ j, n ≤ j → j < n + szF F n → σ.2.2.1 j = 25 → ¬ σ.2.2.2.1 j < 2 → ∃ e, σ.2.2.2.2 j = nI e ∧ e < d) ∧ ((∃ j, n ≤ j ∧ j < n + szF F n ∧ σ.2.2.1 j = 22) → 156 ≤ d)
theorem oCl.k {F : List ND} {σ σ' : RS} {b n : Nat} (h : oCl F σ b n) (hc : cB σ' b = cB σ b) (hv : ∀ v y, (σ'.1.getD b dBK).2.2.2.2 ≤ v → v < endV σ' b → (σ'.2.1.getD v dVK).2 = some y → (σ.1.getD b dBK).2.2.2.2 ≤ v ∧ v < endV σ b ∧ (σ.2.1.getD v dVK).2 = some y ∧ szT σ' y.2.1 = szT σ y.2.1) (hj : ∀ j, n ≤ j → j < n + szF F n → σ'.2.2.1 j = σ.2.2.1 j ∧ σ'.2.2.2.1 j = σ.2.2.2.1 j ∧ σ'.2.2.2.2 j = σ.2.2.2.2 j) : oCl F σ' b n := by
  obtain ⟨c0, d, f, h1, h2, h3, h4, h5, h6, h7, h8⟩ := h
  refine ⟨c0, d, f, by rw [hc]; exact h1, h2, fun v y v1 v2 v3 => ?_, h4, fun j j1 j2 j3 => ?_, fun j j' j1 j2 j3 j4 j5 => ?_, fun j j1 j2 j3 j4 => ?_, fun ⟨j, j1, j2, j3⟩ => ?_⟩
  · obtain ⟨a1, a2, a3, a4⟩ := hv v y v1 v2 v3
    rw [a4]
    exact h3 v y a1 a2 a3
  · obtain ⟨e1, e2, e3⟩ := hj j j1 j2
    rw [e1] at j3
    rw [e3]
    exact h5 j j1 j2 j3
  · rw [(hj j j1 (by omega)).1] at j4
    rw [(hj j' (by omega) j3).1] at j5
    exact h6 j j' j1 j2 j3 j4 j5
  · obtain ⟨e1, e2, e3⟩ := hj j j1 j2
    rw [e1] at j3
    rw [e2] at j4
    rw [e3]
    exact h7 j j1 j2 j3 j4
  · rw [(hj j j1 j2).1] at j3
    exact h8 ⟨j, j1, j2, j3⟩
def P32 (F : List ND) (A : List Nat) (s : SU) : Prop := ∀ b, b < s.1.1.length → nB s b ∉ A → oCl F s.1 b (nB s b)
theorem P32.b {m0 : yM} {T : Nat} {F : List ND} (hF : HF m0 T F) {N : Nat} {A : List Nat} {n : Nat} {s : SU} {σ : RS} (hp : PA m0 T F N A n) (hq : PB F A n s) (h27 : P27 F A n s) (h : P32 F A s) (e : jb s n = .inl σ) : P32 F (A ++ [n]) (σ, s.2) := by
  have h2 := hq.2.1
  have at' := hp.1.at
  obtain ⟨n1, n2, n3, n4⟩ := hq.nb hF (by omega)
  unfold jb at e
  by_cases q : bkN (s.1.2.2.1 n)
  · rw [if_pos q] at e
    unfold lkBeg at e
    split at e
    · cases e
    split at e
    · cases e
    · have e' := inl_e e
      obtain ⟨y1, y2, y3, y4, y5, y6, y7⟩ := beg_y s.1 n (s.1.2.2.1 n) (s.1.2.2.2.1 n)
      have ya := beg_at s.1 n (s.1.2.2.1 n) (s.1.2.2.2.1 n)
      rw [← e'] at y1 y3 y5 y6 y7 ya
      have k5 : (σ.1.getD s.1.1.length dBK).2.2.2.2 = s.1.2.1.length := by
        unfold curB at y5
        rw [y1, Nat.add_sub_cancel] at y5
        exact y5
      have en : ∀ x, x < s.1.1.length → endV σ x = endV s.1 x := by
        intro x hx
        unfold endV
        rw [y1]
        by_cases z : x + 1 < s.1.1.length
        · rw [if_pos (by omega), if_pos z, y7 _ z]
        · rw [if_pos (by omega), if_neg z, show x + 1 = s.1.1.length by omega, k5]
      intro b hb hbA
      have hb : b < σ.1.length := hb
      by_cases c : b < s.1.1.length
      · have eb : nB (σ, s.2) b = nB s b := by show (σ.1.getD b dBK).2.1 = _; rw [y7 b c]
        rw [eb] at hbA ⊢
        refine (h b c (fun z => hbA (List.mem_append_left _ z))).k (by show (σ.1.getD b dBK).2.2.2.1 = _; rw [y7 b c]; rfl) (fun v y v1 v2 v3 => ?_) (fun j _ _ => ⟨by show σ.2.2.1 j = _; rw [y6], by show σ.2.2.2.1 j = _; rw [y6], by show σ.2.2.2.2 j = _; rw [y6]⟩)
        have v1 : (σ.1.getD b dBK).2.2.2.2 ≤ v := v1
        have v2 : v < endV σ b := v2
        have v3 : (σ.2.1.getD v dVK).2 = some y := v3
        rw [y7 b c] at v1
        rw [en b c] at v2
        have := n3 b c
        rw [ya, if_neg (fun z => by omega)] at v3
        exact ⟨v1, v2, v3, szT_st (tyO_of hF hq (by omega) h27 v3) (by show σ.2.2.1 _ = _; rw [y6]) (by show σ.2.2.2.1 _ = _; rw [y6]) (fun x hx => by show (σ.1.getD x dBK).2.2.2.1 = _; rw [y7 x (by omega)]; rfl)⟩
      · exfalso
        apply hbA
        have y3 : (σ.1.getD (σ.1.length - 1) dBK).2.1 = n := y3
        rw [show b = σ.1.length - 1 by omega]
        have : nB (σ, s.2) (σ.1.length - 1) = n := y3
        rw [this]
        exact List.mem_append_right _ List.mem_cons_self
  · rw [if_neg q] at e
    have es : (σ, s.2) = s := by rw [inl_e e]
    rw [es]
    exact fun b hb hbA => h b hb (fun z => hbA (List.mem_append_left _ z))
theorem P32.l {m0 : yM} {T : Nat} {F : List ND} (hF : HF m0 T F) {N : Nat} {A : List Nat} {n : Nat} {s : SU} {σ' : RS} (hp : PA m0 T F N A n) (hq : PAll F (A ++ [n]) (n + szF F n) s) (h21 : P21 F (A ++ [n]) (n + szF F n) s) (h27 : P27 F (A ++ [n]) (n + szF F n) s) (h26 : P26 s) (h : P32 F (A ++ [n]) s) (e : lk F A s.1 s.2 n = .inl σ') : P32 F A (σ', nU s.1 s.2 n) := by
  have kp := KPs_l hF hp hq h27 e
  have cO := lk_cO hF hp hq e
  obtain ⟨h1, h2, h3, h3b, h4, h5, h6, h7, h8, h9, h10, h11⟩ := hq.1
  have hn := hp.lt.1
  have k37 := hp.1.k37
  have at' := hp.1.at
  have h0 := hF.2.2.1
  have nA : n ∈ A ++ [n] := List.mem_append_right _ List.mem_cons_self
  obtain ⟨kn, vn, tn⟩ := h1.1 n hn (Or.inr nA)
  obtain ⟨n1, n2, n3, n4⟩ := hq.1.nb hF at'.1
  obtain ⟨e1, e2, e3, e4, by'⟩ := lk_ef e (fun z => by
    rw [kn] at z
    exact (h1.2.2.2.2 n nA ((ch37e _ k37).mp z)).2.1)
  have szo : ∀ v y, (s.1.2.1.getD v dVK).2 = some y → szT σ' y.2.1 = szT s.1 y.2.1 := fun v y hy => (kp.2.2 v y hy).2.2
  intro b hb hbA
  have hb : b < σ'.1.length := hb
  rw [by'.1] at hb
  have enb : nB (σ', nU s.1 s.2 n) b = nB s b := (kp.1 b hb).2.2.1
  rw [enb] at hbA ⊢
  show oCl F σ' b (nB s b)
  by_cases c : nB s b = n
  · -- the block ends here
    have kb : kK F n = 1 ∨ kK F n = 2 ∨ kK F n = 3 := by rw [← c]; exact (h21.1 b hb).2
    have k1 : bkN (s.1.2.2.1 n) := by rw [kn]; exact (ch37e _ k37).mpr kb
    obtain ⟨B0, eB, -⟩ := h1.2.2.2.2 n nA kb
    have eb : b = s.1.1.length - 1 := by
      by_cases w : b + 1 < s.1.1.length
      · have a := h21.2.1 b w
        have e := nB_mo h21 (b := b + 1) (s.1.1.length - 1 - (b + 1)) (by omega)
        rw [show b + 1 + (s.1.1.length - 1 - (b + 1)) = s.1.1.length - 1 by omega] at e
        have q2 : nB s (s.1.1.length - 1) = n := eB
        rw [c] at a
        have := at'.2
        have zz : 0 < szF F n := by
          obtain ⟨M, hM⟩ := hF.1 n hn
          exact hM.at.2
        omega
      · omega
    unfold lk at e
    have k0 : ¬ s.1.2.2.1 n = 0 := by rcases k1 with k | k | k <;> rw [k] <;> decide
    rw [if_neg k0, if_pos k1] at e
    unfold lkBlk at e
    split at e
    · cases e
    · have e' := inl_e e
      have ec : (s.1.1.getD (s.1.1.length - 1) dBK).2.1 = n := eB
      rw [ec] at e'
      obtain ⟨c0, c1, c2⟩ := h9.2.1 n nA kb
      obtain ⟨d, f, f1, f2, f3, f4, f5, f6⟩ := ownC_o (show s.1.1.length - 1 < s.1.1.length by omega) c1 n (szF F n)
      have oy := ownC_y s.1 (s.1.1.length - 1) n (szF F n)
      rw [← e'] at f1 f3 f5 oy
      have hFl := hF.2.2.2.1
      rw [c, eb]
      refine ⟨c0, d, f, f1, by omega, fun v y v1 v2 v3 => ?_, by omega, fun j j1 j2 j3 => f3 j j1 j2 (by rw [oy.2.2.1] at j3; exact j3), fun j j' j1 j2 j3 j4 j5 => f4 j j' j1 j2 j3 (by rw [oy.2.2.1] at j4; exact j4) (by rw [oy.2.2.1] at j5; exact j5), fun j j1 j2 j3 j4 => f5 j j1 j2 (by rw [oy.2.2.1] at j3; exact j3) (by rw [oy.2.2.2.1] at j4; exact j4), fun ⟨j, j1, j2, j3⟩ => f6 ⟨j, j1, j2, by rw [oy.2.2.1] at j3; exact j3⟩⟩
      rw [oy.2.1] at v3
      rw [(by'.2 _).2.2.2] at v1
      have len : σ'.2.1.length = s.1.2.1.length := by rw [oy.2.1]
      rw [by'.en len] at v2
      obtain ⟨cc, z, dd, g1, g2, g3, g4, g5, -⟩ := h26 (s.1.1.length - 1) v y (by omega) v1 v2 v3
      have : dd = c0 := (nI_eq (by omega) (by omega)).mp (g3.symm.trans c1)
      exact ⟨cc, z, g1, by rw [szo v y v3]; exact g2, by omega⟩
  · have hbA' : nB s b ∉ A ++ [n] := mem_l hbA c
    have nin : n < nB s b + szF F (nB s b) → ¬ nB s b ≤ n := fun w1 w2 => hbA (hp.anc A.length rfl (nB s b) (by omega) w1)
    have ks : ∀ j, nB s b ≤ j → j < nB s b + szF F (nB s b) → σ'.2.2.1 j = s.1.2.2.1 j ∧ σ'.2.2.2.1 j = s.1.2.2.2.1 j ∧ σ'.2.2.2.2 j = s.1.2.2.2.2 j := by
      intro j j1 j2
      have nj : ¬ j = n := fun w => nin (by omega) (by omega)
      refine ⟨(e1 j nj).1, (e1 j nj).2, ?_⟩
      rcases e4 j with w | ⟨w, -⟩ | ⟨w1, w2, w3, -⟩
      · exact w
      · exact absurd w nj
      · exfalso
        have kb : kK F n = 1 ∨ kK F n = 2 ∨ kK F n = 3 := by rw [kn] at w1; exact (ch37e _ k37).mp w1
        obtain ⟨B0, eB, -⟩ := h1.2.2.2.2 n nA kb
        have q2 : nB s (s.1.1.length - 1) = n := eB
        have e := nB_mo h21 (b := b) (s.1.1.length - 1 - b) (by omega)
        rw [show b + (s.1.1.length - 1 - b) = s.1.1.length - 1 by omega] at e
        exact nin (by omega) (by omega)
    by_cases k0 : kK F n = 0
    · have s0 : s.1.2.2.1 n = 0 := by rw [kn, k0]; rfl
      have lo := lk_lo e (by rw [s0]; decide) (by rw [s0]; decide) (by rw [s0]; exact fun w => absurd w.1 (by decide))
      refine (h b hb hbA').k (by unfold cB; rw [lo.1]) (fun v y v1 v2 v3 => ?_) ks
      rw [lo.1] at v1
      rw [lo.2.1] at v3
      rw [by'.en (by rw [lo.2.1])] at v2
      exact ⟨v1, v2, v3, szo v y v3⟩
    · obtain ⟨p, pm, pk⟩ := hp.bk A.length rfl k0 h0
      obtain ⟨q1, q2, -⟩ := h1.2.2.2.2 p pm pk
      have q2 : nB s (s.1.1.length - 1) = p := q2
      have bl : b + 1 < s.1.1.length := by
        rcases Nat.lt_or_ge (b + 1) s.1.1.length with w | w
        · exact w
        · exfalso
          apply hbA'
          rw [show b = s.1.1.length - 1 by omega, q2]
          exact pm
      obtain ⟨en1, en2⟩ := kp.2.1 b bl
      have en1 : endV σ' b = endV s.1 b := en1
      refine (h b hb hbA').k (cO b bl) (fun v y v1 v2 v3 => ?_) ks
      rw [(by'.2 _).2.2.2] at v1
      rw [en1] at v2
      have fb := h3b (by omega)
      have fm := h2.fm (b := b + 1) (s.1.1.length - 1) (by omega) (by omega)
      have fb : (s.1.1.getD (s.1.1.length - 1) dBK).2.2.2.2 + qN F (A ++ [n]) (n + szF F n) ≤ s.1.2.1.length := fb
      have v2' := v2
      unfold endV at v2'
      rw [if_pos bl] at v2'
      obtain ⟨-, y', hy'⟩ := (vOk_i s.1 v).mp (h3.2.1 v (by omega))
      have eg := (kp.2.2 v y' hy').2.1
      have eg : σ'.2.1.getD v dVK = s.1.2.1.getD v dVK := eg
      rw [eg] at v3
      exact ⟨v1, v2, v3, szo v y v3⟩
theorem jn_31 {m0 : yM} {T N : Nat} {F : List ND} (hF : HF m0 T F) (hW : TW m0 T F N 0) (hz : szF F 0 = F.length) {s : SU} (e : jn F N [] 0 (sg0 F) = .inl s) : P31 F [] F.length s ∧ P32 F [] s := by
  have := jn_ind (P := fun A i s => PAll F A i s ∧ P27 F A i s ∧ P28 F A i s ∧ P26 s ∧ P21 F A i s ∧ P31 F A i s ∧ P32 F A s) (m0 := m0) (T := T) (F := F) (fun N A n s σ hp h e => ⟨PAll.b hF hp h.1 e, P27.b h.2.1 e, P28.b hF.2.2.1 hp h.1.1.1 h.2.2.1 e, P26.b hF hp h.1.1 h.2.1 h.2.2.2.1 e, P21.b hF.2.2.1 hp h.1.1.1 h.2.2.2.2.1 e, P31.b hF hp h.1.1 h.2.1 h.2.2.2.2.2.1 e, P32.b hF hp h.1.1 h.2.1 h.2.2.2.2.2.2 e⟩) (fun N A n s σ' hp h e => ⟨PAll.l hF hp h.1 e, P27.l hF hp h.1 h.2.1 e, P28.l hF hp h.1 h.2.2.1 e, P26.l hF hp h.1 h.2.1 h.2.2.1 h.2.2.2.1 e, P21.l hp h.1.1.1 h.2.2.2.2.1 e, P31.l hF hp h.1 h.2.2.2.2.1 h.2.1 h.2.2.2.1 h.2.2.2.2.2.1 e, P32.l hF hp h.1 h.2.2.2.2.1 h.2.1 h.2.2.2.1 h.2.2.2.2.2.2 e⟩) N [] 0 (sg0 F) ⟨hW, rfl, fun p hp => by cases hp⟩ ⟨PAll.z (fun j hj => hF.1.k hj), fun j _ hj => absurd hj (Nat.not_lt_zero _), fun z => absurd z.1 (Nat.lt_irrefl _), fun b v y hb => absurd hb (Nat.not_lt_zero _), ⟨fun b hb => absurd hb (Nat.not_lt_zero _), fun b hb => absurd hb (Nat.not_lt_zero _), fun z => absurd z (Nat.lt_irrefl _)⟩, fun j _ hj => absurd hj (Nat.not_lt_zero _), fun b hb => absurd hb (Nat.not_lt_zero _)⟩ s e
  rw [hz, Nat.zero_add] at this
  exact ⟨this.2.2.2.2.2.1, this.2.2.2.2.2.2⟩
