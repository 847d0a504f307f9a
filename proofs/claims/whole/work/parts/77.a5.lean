/-! THE WRITER: statements of the class -/
def WC (F : List ND) (σ : RS) (u ℓ : Nat) (C : List IT) (m : yM) : Prop := CR F σ m ∧ CO C m ∧ u ≤ C.length ∧ m.1 42 7 = nI u ∧ m.1 42 9 = prv C (mX ℓ) C.length
/-- what statements leave alone -/
def SK (m m' : yM) : Prop := (∀ a i, a < 35 ∨ a = 40 ∨ a = 41 ∨ 42 < a → m'.1 a i = m.1 a i) ∧ (∀ i, i ≠ 6 → m'.1 35 i = m.1 35 i) ∧ (∀ i, i ≠ 9 → m'.1 42 i = m.1 42 i) ∧ m'.2 = m.2
theorem SK.re (m : yM) : SK m m := ⟨fun _ _ _ => rfl, fun _ _ => rfl, fun _ _ => rfl, rfl⟩
theorem SK.tr {m m1 m2 : yM} (h : SK m m1) (h2 : SK m1 m2) : SK m m2 := ⟨fun a i x => by rw [h2.1 a i x, h.1 a i x], fun i x => by rw [h2.2.1 i x, h.2.1 i x], fun i x => by rw [h2.2.2.1 i x, h.2.2.1 i x], h2.2.2.2.trans h.2.2.2⟩
theorem EK.s {m m' : yM} (h : EK m m') : SK m m' := ⟨fun a i x => h.1 a i (by omega), h.2.1, fun i _ => h.1 42 i (by omega), h.2.2⟩
def MK (C : List IT) (k : Nat) : Prop := ∀ x, x ∈ C → x.2.2.2.2.1 ≤ k
theorem MK.w {C : List IT} {k k' : Nat} (h : MK C k) (hk : k ≤ k') : MK C k' := fun x hx => Nat.le_trans (h x hx) hk
theorem MK.app {C D : List IT} {k : Nat} (h : MK C k) (h2 : MK D k) : MK (C ++ D) k := fun x hx => (List.mem_append.mp hx).elim (h x) (h2 x)
theorem mk0.k {D : List IT} (h : mk0 D) (k : Nat) : MK D k := fun x hx => by rw [h x hx]; exact Nat.zero_le _
theorem mk2.k {ℓ : Nat} {D : List IT} (h : mk2 ℓ D) {k : Nat} (hk : mX ℓ ≤ k) : MK D k := fun x hx => by
  rcases h x hx with z | z <;> rw [z] <;> omega
theorem mk3.k {ℓ n : Nat} {D : List IT} (h : mk3 ℓ n D) {k : Nat} (hk : mX ℓ ≤ k) (hn : mE n ≤ k) : MK D k := fun x hx => by
  rcases h x hx with z | z | z <;> rw [z] <;> omega
theorem CR.sk {F : List ND} {σ : RS} {m m' : yM} (h : CR F σ m) (g : SK m m') : CR F σ m' := h.ek (fun a i z => g.1 a i (by omega))
/-- code without marks is added -/
theorem WC.ek {F : List ND} {σ : RS} {u ℓ : Nat} {C D : List IT} {m m' : yM} (h : WC F σ u ℓ C m) (g : EK m m') (c : CO (C ++ D) m') (hd : ∀ x, x ∈ D → ¬ x.2.2.2.2.1 = mX ℓ) : WC F σ u ℓ (C ++ D) m' := by
  obtain ⟨h1, h2, h3, h4, h5⟩ := h
  refine ⟨h1.e g, c, by rw [List.length_append]; omega, by rw [g.1 42 7 (by omega)]; exact h4, ?_⟩
  rw [g.1 42 9 (by omega), h5, prv_x hd]
theorem mk0.nx {D : List IT} (h : mk0 D) (ℓ : Nat) : ∀ x, x ∈ D → ¬ x.2.2.2.2.1 = mX ℓ := fun x hx z => by
  rw [h x hx] at z
  unfold mX at z
  omega
def bodC (xs : List Int32) (D : Nat) (F : List ND) (σ : RS) (u ℓ : Nat) (bd : Nat → Nat → List IT) (b : Nat) : Prop := ∀ (C : List IT) (m : yM), WC F σ u ℓ C m → MK C (2 * b + 1) → C.length + (bd b (C.length - u)).length < 2 ^ 30 → yC (xg xs) D 195 [.ref 42, .int (nI b)] m (fun r m' => r = none ∧ WC F σ u ℓ (C ++ bd b (C.length - u)) m' ∧ SK m m')
theorem c204 (xs : List Int32) (D : Nat) {F : List ND} {σ : RS} {u ℓ : Nat} {bd : Nat → Nat → List IT} {n b e : Nat} (hb : bodC xs (D + 1) F σ u ℓ bd b) (h2 : ∀ p, mk2 ℓ (bd b p)) (nb : n < b) (bl : b < F.length) (e16 : e ≤ 16400) {mo : Bool} (hmo : mo = true ↔ b + szF F b < e) {C : List IT} {m : yM} (h : WC F σ u ℓ C m) (mk : MK C (2 * b)) (hl : C.length + (wy n bd b mo (C.length - u)).length < 2 ^ 30) : yC (xg xs) (D + 2) 204 [.ref 42, .int (nI b), .int (nI e), .int (prv C (mE n) C.length)] m (fun r m' => r = some (.int (prv (C ++ wy n bd b mo (C.length - u)) (mE n) (C ++ wy n bd b mo (C.length - u)).length)) ∧ WC F σ u ℓ (C ++ wy n bd b mo (C.length - u)) m' ∧ SK m m') := by
  have hu := h.2.2.1
  have hf := h.1.f
  generalize hx0 : ((11, 0, 0, 0, mE b, 0) : IT) = x0
  have k0 : x0.2.2.2.2.1 = mE b := by rw [← hx0]
  have nm : ∀ x, x ∈ C → ¬ x.2.2.2.2.1 = mE b := fun x hx z => by
    have := mk x hx
    rw [z] at this
    unfold mE at this
    omega
  have a0 : prv C (mE b) C.length = -1 := prv_n (by unfold mE; omega) nm _
  have wl : (wy n bd b mo (C.length - u)).length = 1 + (bd b (C.length - u + 1)).length + (if mo = true then 1 else 0) := by
    unfold wy
    rw [List.length_cons, List.length_append]
    split
    · rw [List.length_singleton]; omega
    · rw [List.length_nil]; omega
  rw [wl] at hl
  refine w204_0 xs (D + 1) _ _ _ m _ ?_
  refine yC.mono (show D + 1 ≤ D + 1 by omega) (fun r m1 q => ⟨_, q.1, ?_⟩) (c194 xs D h.2.1 (by omega) x0 (by rw [← hx0]) (by unfold caV; rw [k0, if_neg (by unfold mE; omega), a0]) (by rw [← hx0]) (by rw [← hx0]))
  have l1 : (C ++ [x0]).length = C.length + 1 := by rw [List.length_append, List.length_singleton]
  have w1 := h.ek q.2.2 q.2.1 (fun x hx => by rw [List.mem_singleton.mp hx, k0]; unfold mE mX; omega)
  have p1 : (C ++ [x0]).length - u = C.length - u + 1 := by rw [l1]; omega
  have hbd := hb (C ++ [x0]) m1 w1 ((mk.w (by omega)).app (fun x hx => by rw [List.mem_singleton.mp hx, k0]; exact Nat.le_refl _)) (by rw [p1, l1]; omega)
  rw [p1] at hbd
  refine yC.mono (Nat.le_refl _) (fun r m2 q2 => ⟨q2.1, x_in_nI (by omega) (by decide), ?_⟩) hbd
  obtain ⟨-, w2, s2⟩ := q2
  generalize hD : bd b (C.length - u + 1) = B at *
  have B2 : mk2 ℓ B := by rw [← hD]; exact h2 _
  have l2 : (C ++ [x0] ++ B).length = C.length + 1 + B.length := by rw [List.length_append, l1]
  rw [nI_clamp (by omega), (w2.1.t bl).2.2.2.2.1]
  have tb := (w2.1.t bl).2.2.2.2.2
  -- the jump behind is aimed
  have fin : ∀ (E : List IT) (m3 : yM) (s0 : Int32), (E = if mo = true then [(10, 0, 0, 0, mE n, 0)] else []) → WC F σ u ℓ (C ++ [x0] ++ B ++ E) m3 → SK m m3 → s0 = prv (C ++ [x0] ++ B ++ E) (mE n) (C ++ [x0] ++ B ++ E).length → yP (xg xs) (D + 2) 204 48 [(0, .ref 42), (4, .int (nI C.length))] [.int s0] m3 (fun r m' => r = some (.int (prv (C ++ wy n bd b mo (C.length - u)) (mE n) (C ++ wy n bd b mo (C.length - u)).length)) ∧ WC F σ u ℓ (C ++ wy n bd b mo (C.length - u)) m' ∧ SK m m') := by
    intro E m3 s0 hE w3 s3 hs0
    have lE : E.length = if mo = true then 1 else 0 := by rw [hE]; split <;> rfl
    have l3 : (C ++ [x0] ++ B ++ E).length = C.length + 1 + B.length + E.length := by rw [List.length_append, l2]
    refine w204_48 xs (D + 1) _ _ m3 _ (y_ci (c205 xs D w3.2.1 w3.2.2.2.1 w3.2.2.1) (by omega) ?_)
    have noE : ∀ x, x ∈ E → ¬ x.2.2.2.2.1 = mE b := by
      intro x hx z
      rw [hE] at hx
      split at hx
      · rw [List.mem_singleton.mp hx] at z
        have z : mE n = mE b := z
        unfold mE at z
        omega
      · cases hx
    have noB : ∀ x, x ∈ B → ¬ x.2.2.2.2.1 = mE b := by
      intro x hx z
      rcases B2 x hx with y | y
      · rw [y] at z; unfold mE at z; omega
      · rw [y] at z; unfold mE mX at z; omega
    have hd : prv (C ++ [x0] ++ B ++ E) (mE b) (C ++ [x0] ++ B ++ E).length = nI C.length := by
      rw [prv_x noE, prv_x noB, l1]
      show (if ((C ++ [x0]).getD C.length dIT).2.2.2.2.1 = mE b then nI C.length else _) = _
      have : (C ++ [x0]).getD C.length dIT = x0 := by
        rw [List.getD_eq_getElem?_getD, List.getElem?_append_right (Nat.le_refl _), Nat.sub_self]
        rfl
      rw [this, if_pos k0]
    have c6 := c206 xs D w3.2.1 (μ := mE b) (by unfold mE; omega) (nI ((C ++ [x0] ++ B ++ E).length - u))
    rw [hd] at c6
    refine yC.mono (by omega) (fun r m4 q4 => ⟨q4.1, ?_⟩) c6
    obtain ⟨-, q5, q6⟩ := q4
    have ew : res (mE b) (nI ((C ++ [x0] ++ B ++ E).length - u)) (C ++ [x0] ++ B ++ E) = C ++ wy n bd b mo (C.length - u) := by
      rw [res_app, res_app, res_app, res_n nm, res_n noB, res_n noE]
      unfold wy
      rw [hD, ← hE]
      have e1 : res (mE b) (nI ((C ++ [x0] ++ B ++ E).length - u)) [x0] = [(11, nI (C.length - u + 1 + B.length + (if mo = true then 1 else 0)), 0, 0, 0, 0)] := by
        have ev : nI ((C ++ [x0] ++ B ++ E).length - u) = nI (C.length - u + 1 + B.length + (if mo = true then 1 else 0)) := by
          rw [l3, lE]
          congr 1
          omega
        rw [ev]
        show [rs1 _ _ x0] = _
        unfold rs1
        rw [if_pos k0, ← hx0]
      rw [e1, List.append_assoc, List.append_assoc]
      rfl
    have pr : ∀ μ', ¬ μ' = 0 → ¬ μ' = mE b → prv (C ++ wy n bd b mo (C.length - u)) μ' (C ++ wy n bd b mo (C.length - u)).length = prv (C ++ [x0] ++ B ++ E) μ' (C ++ [x0] ++ B ++ E).length := by
      intro μ' n0 n1
      rw [← ew, prv_r _ _ (by unfold mE; omega) n0 n1, res_len]
    rw [ew] at q5
    refine ⟨?_, ⟨w3.1.e q6, q5, ?_, by rw [q6.1 42 7 (by omega)]; exact w3.2.2.2.1, ?_⟩, s3.tr q6.s⟩
    · rw [hs0, pr (mE n) (by unfold mE; omega) (by unfold mE; omega)]
    · rw [List.length_append]; omega
    · rw [q6.1 42 9 (by omega), w3.2.2.2.2, pr (mX ℓ) (by unfold mX; omega) (by unfold mX mE; omega)]
  have sk2 : SK m m2 := q.2.2.s.tr s2
  have pn : prv (C ++ [x0] ++ B) (mE n) (C ++ [x0] ++ B).length = prv C (mE n) C.length := by
    rw [prv_x, prv_x]
    · intro x hx z
      rw [List.mem_singleton.mp hx, k0] at z
      unfold mE at z
      omega
    · intro x hx z
      rcases B2 x hx with y | y
      · rw [y] at z; unfold mE at z; omega
      · rw [y] at z; unfold mE mX at z; omega
  refine ⟨fun z => ?_, fun z => ?_⟩
  · have le := (nI_leI (by omega) (by omega)).mp z
    have mf : ¬ mo = true := fun y => by have := hmo.mp y; omega
    refine fin [] m2 _ (by rw [if_neg mf]) (by rw [List.append_nil]; exact w2) sk2 ?_
    rw [List.append_nil]
    exact pn.symm
  · have lt : b + szF F b < e := by
      rcases Nat.lt_or_ge (b + szF F b) e with y | y
      · exact y
      · exact absurd (nI_le y (by omega)) z
    have mt : mo = true := hmo.mpr lt
    rw [if_pos mt] at hl
    generalize hx1 : ((10, 0, 0, 0, mE n, 0) : IT) = x1
    have k1 : x1.2.2.2.2.1 = mE n := by rw [← hx1]
    refine yC.mono (show D + 1 ≤ D + 1 by omega) (fun r m3 q3 => ⟨_, q3.1, ?_⟩) (c194 xs D w2.2.1 (by rw [l2]; omega) x1 (by rw [← hx1]) (by unfold caV; rw [k1, if_neg (by unfold mE; omega), pn]) (by rw [← hx1]) (by rw [← hx1]))
    refine fin [x1] m3 _ (by rw [if_pos mt, hx1]) (w2.ek q3.2.2 q3.2.1 (fun x hx => by rw [List.mem_singleton.mp hx, k1]; unfold mE mX; omega)) (sk2.tr q3.2.2.s) ?_
    have ln : (C ++ [x0] ++ B ++ [x1]).length = (C ++ [x0] ++ B).length + 1 := by rw [List.length_append, List.length_singleton]
    rw [ln]
    show _ = (if ((C ++ [x0] ++ B ++ [x1]).getD (C ++ [x0] ++ B).length dIT).2.2.2.2.1 = mE n then nI (C ++ [x0] ++ B).length else _)
    have : (C ++ [x0] ++ B ++ [x1]).getD (C ++ [x0] ++ B).length dIT = x1 := by
      rw [List.getD_eq_getElem?_getD, List.getElem?_append_right (Nat.le_refl _), Nat.sub_self]
      rfl
    rw [this, if_pos k1]
