/-! THE REFERENCE'S RULES: variables and cells more -/
theorem vdR.fr {J : JV} {σ σ' : RS} {m m' : yM} {v : Nat} {y : Int32 × Nat × Int32 × Int32} (h : vdR J σ m v y) (hk : σ'.2.2 = σ.2.2) (hi : inB σ' 3 ↔ inB σ 3) (hc : (curB σ').2.2.2.2 = (curB σ).2.2.2.2) (g : ∀ a, 74 < a → a < 84 → m'.1 a v = m.1 a v) : vdR J σ' m' v y := by
  unfold vdR tnK tyR atR at h ⊢
  rw [hk, hc, g 76 (by omega) (by omega), g 77 (by omega) (by omega), g 78 (by omega) (by omega), g 79 (by omega) (by omega), g 80 (by omega) (by omega), g 81 (by omega) (by omega), g 82 (by omega) (by omega), g 83 (by omega) (by omega)]
  obtain ⟨h1, h2, h3, h4, h5, h6⟩ := h
  refine ⟨h1, h2, h3, h4, h5, ?_⟩
  rcases h6 with ⟨q1, q2⟩ | ⟨w, k, q1, q2, q3, q4, q5, q6⟩
  · exact Or.inl ⟨q1, fun z => q2 (hi.mp z)⟩
  · exact Or.inr ⟨w, k, q1, q2, q3, q4, q5, hi.mpr q6⟩
theorem vuR.fr {m m' : yM} {v : Nat} (h : vuR m v) (g : ∀ a, 74 < a → a < 84 → m'.1 a v = m.1 a v) : vuR m' v := by
  unfold vuR at h ⊢
  rw [g 76 (by omega) (by omega), g 79 (by omega) (by omega), g 82 (by omega) (by omega), g 83 (by omega) (by omega)]
  exact h
theorem RB.dc {J : JV} {σ : RS} {m m' : yM} (h : RB J σ m) (hV : σ.2.1.length < 4096) {x y : Int32} (hx : NM J x y) (g : ∀ a i, 69 < a → a < 84 → ¬ (74 < a ∧ i = σ.2.1.length) → m'.1 a i = m.1 a i) (g5 : ∀ i, i = 3 ∨ i = 23 ∨ i = 29 → m'.1 58 i = m.1 58 i) (g30 : m'.1 58 30 = nI (σ.2.1.length + 1)) (n75 : m'.1 75 σ.2.1.length = y) (nu : vuR m' σ.2.1.length) : RB J (decl σ x) m' := by
  obtain ⟨⟨a1, a2, a3, a4, a5, a6⟩, b, v⟩ := h
  have len : (decl σ x).2.1.length = σ.2.1.length + 1 := by simp [decl]
  refine ⟨⟨(g5 3 (by omega)).trans a1, a2, by rw [len]; omega, (g5 23 (by omega)).trans a4, by rw [len]; exact g30, (g5 29 (by omega)).trans a6⟩, fun e z hz => ?_, fun u z hz => ?_⟩
  · rw [g 70 e (by omega) (by omega) (by omega), g 71 e (by omega) (by omega) (by omega), g 72 e (by omega) (by omega) (by omega), g 73 e (by omega) (by omega) (by omega), len]
    obtain ⟨q1, q2, q3, q4, q5, q6, q7⟩ := b e z hz
    exact ⟨q1, q2, q3, q4, q5, by omega, q7⟩
  · have hz : (σ.2.1 ++ [(x, none)])[u]? = some z := hz
    rcases Nat.lt_or_ge u σ.2.1.length with q | q
    · rw [List.getElem?_append_left q] at hz
      obtain ⟨c1, c2, c3⟩ := v u z hz
      have gg : ∀ a, 74 < a → a < 84 → m'.1 a u = m.1 a u := fun a x1 x2 => g a u (by omega) (by omega) (by omega)
      exact ⟨by rw [gg 75 (by omega) (by omega)]; exact c1, fun e => (c2 e).fr gg, fun w e => (c3 w e).fr rfl Iff.rfl rfl gg⟩
    · rw [List.getElem?_append_right q] at hz
      have e1 : u = σ.2.1.length := by
        have := (List.getElem?_eq_some_iff.mp hz).1
        simp at this
        omega
      subst e1
      rw [Nat.sub_self] at hz
      simp only [List.getElem?_cons_zero, Option.some.injEq] at hz
      subst hz
      exact ⟨by rw [n75]; exact hx, fun _ => nu, fun w e => by cases e⟩
theorem RB.ds {J : JV} {σ : RS} {m m' : yM} (h : RB J σ m) {v : Nat} (hv : v < σ.2.1.length) {y : Int32 × Nat × Int32 × Int32} (g : ∀ a i, 69 < a → a < 84 → ¬ (75 < a ∧ i = v) → m'.1 a i = m.1 a i) (g5 : ∀ i, i = 3 ∨ i = 23 ∨ i = 29 ∨ i = 30 → m'.1 58 i = m.1 58 i) (hd : vdR J σ m' v y) : RB J (setVr σ v y) m' := by
  obtain ⟨⟨a1, a2, a3, a4, a5, a6⟩, b, c⟩ := h
  have len : (setVr σ v y).2.1.length = σ.2.1.length := by simp [setVr]
  refine ⟨⟨(g5 3 (by omega)).trans a1, a2, by rw [len]; exact a3, (g5 23 (by omega)).trans a4, by rw [len]; exact (g5 30 (by omega)).trans a5, (g5 29 (by omega)).trans a6⟩, fun e z hz => ?_, fun u z hz => ?_⟩
  · rw [g 70 e (by omega) (by omega) (by omega), g 71 e (by omega) (by omega) (by omega), g 72 e (by omega) (by omega) (by omega), g 73 e (by omega) (by omega) (by omega), len]
    exact b e z hz
  · have hz : (σ.2.1.set v ((σ.2.1.getD v dVK).1, some y))[u]? = some z := hz
    rw [List.getElem?_set] at hz
    by_cases q : v = u
    · subst q
      rw [if_pos rfl, if_pos hv] at hz
      simp only [Option.some.injEq] at hz
      subst hz
      have cv := (c v _ (getD_some (d := dVK) hv)).1
      exact ⟨by rw [g 75 v (by omega) (by omega) (by omega)]; exact cv, fun e => (by cases e), fun w e => by
        have e := Option.some.inj e
        rw [← e]
        exact hd⟩
    · rw [if_neg q] at hz
      obtain ⟨c1, c2, c3⟩ := c u z hz
      have gg : ∀ a, 74 < a → a < 84 → m'.1 a u = m.1 a u := fun a x1 x2 => g a u (by omega) (by omega) (by omega)
      exact ⟨by rw [gg 75 (by omega) (by omega)]; exact c1, fun e => (c2 e).fr gg, fun w e => (c3 w e).fr rfl Iff.rfl rfl gg⟩
theorem setC_at (σ : RS) {b : Nat} (hb : b < σ.1.length) (c : Int32) (e : Nat) : (setC σ b c).1.getD e dBK = if e = b then ((σ.1.getD b dBK).1, (σ.1.getD b dBK).2.1, (σ.1.getD b dBK).2.2.1, c, (σ.1.getD b dBK).2.2.2.2) else σ.1.getD e dBK := getD_set σ.1 b e _ _ hb
theorem setC_l (σ : RS) (b : Nat) (c : Int32) : (setC σ b c).1.length = σ.1.length := by simp [setC]
theorem setC_c (σ : RS) {b : Nat} (hb : b < σ.1.length) (c : Int32) : (curB (setC σ b c)).1 = (curB σ).1 ∧ (curB (setC σ b c)).2.1 = (curB σ).2.1 ∧ (curB (setC σ b c)).2.2.2.2 = (curB σ).2.2.2.2 := by
  unfold curB
  rw [setC_l, setC_at σ hb]
  by_cases q : σ.1.length - 1 = b
  · rw [if_pos q, q]; exact ⟨rfl, rfl, rfl⟩
  · rw [if_neg q]; exact ⟨rfl, rfl, rfl⟩
theorem RB.sc {J : JV} {σ : RS} {m m' : yM} (h : RB J σ m) {b : Nat} (hb : b < σ.1.length) {c : Int32} (g : ∀ a i, 69 < a → a < 84 → ¬ (a = 72 ∧ i = b) → m'.1 a i = m.1 a i) (g5 : ∀ i, i = 3 ∨ i = 23 ∨ i = 29 ∨ i = 30 → m'.1 58 i = m.1 58 i) (q : m'.1 72 b = c) : RB J (setC σ b c) m' := by
  obtain ⟨⟨a1, a2, a3, a4, a5, a6⟩, bb, cc⟩ := h
  obtain ⟨s1, s2, s3⟩ := setC_c σ hb c
  have ib : inB (setC σ b c) 3 ↔ inB σ 3 := by
    unfold inB
    rw [s1, setC_l]
  refine ⟨⟨(g5 3 (by omega)).trans a1, by rw [setC_l]; exact a2, a3, by rw [setC_l]; exact (g5 23 (by omega)).trans a4, (g5 30 (by omega)).trans a5, ?_⟩, fun e z hz => ?_, fun u z hz => ?_⟩
  · rw [g5 29 (by omega), a6]
    by_cases w : inB σ 3
    · rw [if_pos w, if_pos (ib.mpr w)]
    · rw [if_neg w, if_neg (fun y => w (ib.mp y))]
  · have hz : (σ.1.set b ((σ.1.getD b dBK).1, (σ.1.getD b dBK).2.1, (σ.1.getD b dBK).2.2.1, c, (σ.1.getD b dBK).2.2.2.2))[e]? = some z := hz
    rw [List.getElem?_set] at hz
    rw [g 70 e (by omega) (by omega) (by omega), g 71 e (by omega) (by omega) (by omega), g 73 e (by omega) (by omega) (by omega)]
    by_cases w : b = e
    · subst w
      rw [if_pos rfl, if_pos hb] at hz
      simp only [Option.some.injEq] at hz
      subst hz
      obtain ⟨q1, q2, q3, q4, q5, q6, q7⟩ := bb b _ (getD_some (d := dBK) hb)
      exact ⟨q1, q2, q3, q, q5, q6, q7⟩
    · rw [if_neg w] at hz
      rw [g 72 e (by omega) (by omega) (by omega)]
      exact bb e z hz
  · obtain ⟨c1, c2, c3⟩ := cc u z hz
    have gg : ∀ a, 74 < a → a < 84 → m'.1 a u = m.1 a u := fun a x1 x2 => g a u (by omega) (by omega) (by omega)
    exact ⟨by rw [gg 75 (by omega) (by omega)]; exact c1, fun e => (c2 e).fr gg, fun w e => (c3 w e).fr rfl ib s3 gg⟩
theorem nvR.fr {J : JV} {σ σ' : RS} {m m' : yM} {i : Nat} (h : nvR J σ m i) (hk : σ'.2.2.1 i = σ.2.2.1 i) (hv : σ'.2.2.2.1 i = σ.2.2.2.1 i) (ht : σ'.2.2.2.2 i = σ.2.2.2.2 i) (g : ∀ a, 83 < a → a < 89 → m'.1 a (J.2.2.2 i) = m.1 a (J.2.2.2 i)) : nvR J σ' m' i := by
  have cn : cnP σ' i ↔ cnP σ i := by unfold cnP; rw [hk]
  unfold nvR at h ⊢
  rw [g 84 (by omega) (by omega), g 85 (by omega) (by omega), g 86 (by omega) (by omega), g 87 (by omega) (by omega), g 88 (by omega) (by omega), hv, ht]
  obtain ⟨h1, h2, h3, h4⟩ := h
  refine ⟨fun e => ?_, h2, h3, fun e z => h4 e (fun y => z (cn.mpr y))⟩
  obtain ⟨q1, q2, q3⟩ := h1 e
  refine ⟨q1, ?_, fun z => q3 (cn.mp z)⟩
  rw [q2]
  by_cases w : cnP σ i
  · rw [if_pos w, if_pos (cn.mpr w)]
  · rw [if_neg w, if_neg (fun y => w (cn.mp y))]
/-- nodes stay as they are -/
theorem RJ.nd {J : JV} {D : Nat → Prop} {σ σ' : RS} {m m' : yM} (h : ∀ i, D i → i < J.2.2.1.length ∧ nvR J σ m i) (hk : σ'.2.2 = σ.2.2) (g : ∀ a i, 83 < a → a < 89 → m'.1 a i = m.1 a i) : ∀ i, D i → i < J.2.2.1.length ∧ nvR J σ' m' i := fun i hi => ⟨(h i hi).1, (h i hi).2.fr (by rw [hk]) (by rw [hk]) (by rw [hk]) (fun a x y => g a _ x y)⟩
theorem RB.f0 {J : JV} {σ : RS} {m : yM} (h : RB J σ m) : m.1 58 3 = 0 := h.1.1
/-- the loop over blocks that asks whether a name is taken (beginBlock) -/
theorem c322L (xs : List Int32) (d : Nat) {J : JV} (hN : JN J) {σ : RS} (h4 : σ.1.length ≤ 399) {x y l1 : Int32} (hx : NM J x y) {m : yM} (hb : BN J σ m) {Q : Option Value → yM → Prop} : ∀ (q b : Nat) (u : Int32), b + q = σ.1.length → (u = 0 ∨ u = 1) → yP (xg xs) (d + 1) 322 27 [(0, .ref 58), (1, .int l1), (2, .int y), (3, .int (agA σ x q b u)), (4, .int (nI σ.1.length))] [] m Q → yP (xg xs) (d + 1) 322 27 [(0, .ref 58), (1, .int l1), (2, .int y), (3, .int u), (4, .int (nI b))] [] m Q
  | 0, b, u, hq, hu, K => by
    have e : b = σ.1.length := by omega
    subst e
    exact K
  | q + 1, b, u, hq, hu, K => by
    obtain ⟨n1, n2⟩ := hb
    have eq := NM.eq hN (n2 b (by omega)) hx
    have es : agA σ x (q + 1) b u = agA σ x q (b + 1) (if u = 0 ∧ ¬ (σ.1.getD b dBK).2.2.1 = x then 0 else 1) := rfl
    rw [es] at K
    have nx : ∀ u', u' = (if u = 0 ∧ ¬ (σ.1.getD b dBK).2.2.1 = x then 0 else 1) → yP (xg xs) (d + 1) 322 56 [(0, .ref 58), (1, .int l1), (2, .int y), (4, .int (nI b))] [.int u'] m Q := by
      intro u' e'
      refine w322_56 xs d _ _ _ _ m _ ?_
      rw [nI_1]
      refine c322L xs d hN h4 hx ⟨n1, n2⟩ q (b + 1) u' (by omega) (by rw [e']; split <;> simp) ?_
      rw [e']
      exact K
    refine w322_27 xs d _ _ _ _ m _ ⟨fun z => ?_, fun _ => ⟨fun z => ?_, fun z => ⟨x_in_nI (by omega) (by decide), ?_⟩⟩⟩
    · rw [n1] at z
      exact absurd ((nI_leI (by omega) (by omega)).mp z) (by omega)
    · exact w322_51 xs d _ _ _ m _ (nx 1 (by rw [if_neg (fun w => z w.1)]))
    · rw [nI_clamp (by omega)]
      refine ⟨fun w => nx 0 ?_, fun w => w322_51 xs d _ _ _ m _ (nx 1 ?_)⟩
      · rw [if_pos ⟨z, fun v => w (eq.mp v)⟩]
      · rw [if_neg (fun v => v.2 (eq.mpr w))]
