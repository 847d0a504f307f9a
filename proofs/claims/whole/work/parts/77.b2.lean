/-! THE WRITER: rungs of the class, laid out -/
theorem gI1 : ∀ a, a < 12 → ∀ b, b < 12 → nI a * 12 + nI b = nI (a * 12 + b) := by decide +kernel
theorem gI2 : ∀ a, a < 12 → ∀ b, b < 12 → nI a * 12 + nI (b + 1) - 1 = nI (a * 12 + b) := by decide +kernel
def LG (F : List ND) (R : List Nat) (cols : Nat) (m : yM) : Prop := m.1 42 5 = nI R.length ∧ m.1 42 6 = nI cols ∧ ∀ row, row < R.length → ∀ c, c < cols → m.1 43 (row * 12 + c) = nI (clR F R row (c + 1)) ∧ (m.1 44 (row * 12 + c) = 0 ↔ ln F (R.getD row 0) (c + 1) = false)
theorem LG.e {F : List ND} {R : List Nat} {cols : Nat} {m m' : yM} (h : LG F R cols m) (g : EK m m') : LG F R cols m' := by
  obtain ⟨h1, h2, h3⟩ := h
  refine ⟨by rw [g.1 42 5 (by omega)]; exact h1, by rw [g.1 42 6 (by omega)]; exact h2, fun row hr c hc => ?_⟩
  rw [g.1 43 _ (by omega), g.1 44 _ (by omega)]
  exact h3 row hr c hc
def RG (F : List ND) (σ : RS) (R : List Nat) (cols : Nat) : Prop := R.length ≤ 12 ∧ 1 ≤ cols ∧ cols ≤ 12 ∧ (∀ row, row < R.length → R.getD row 0 < F.length ∧ (cel F (R.getD row 0)).length = cols) ∧ ∀ row, row < R.length → ∀ l, 1 ≤ l → l ≤ cols → clR F R row l < F.length ∧ σ.2.2.1 (clR F R row l) = nI (kK F (clR F R row l)) ∧ kK F (clR F R row l) < 37 ∧ (kK F (clR F R row l) = 25 ∨ kK F (clR F R row l) = 28 → clR F R row l + 1 < F.length ∧ (σ.2.2.1 (clR F R row l + 1) = 6 → ∃ v, σ.2.2.2.1 (clR F R row l + 1) = nI v ∧ vOk σ v))
theorem mem_cel {F : List ND} {K : List Nat} {x : Nat} (h : x ∈ celK F K) : x ∈ K ∧ ¬ kK F x = 29 := by
  unfold celK at h
  have := List.mem_filter.mp h
  exact ⟨this.1, by simpa using this.2⟩
theorem RG_of {m0 : yM} {T : Nat} {F : List ND} {s : SU} (hS : HS m0 T F s) (h16 : P16 F [] F.length) {N n : Nat} (hW : TW m0 T F N n) (k : kK F n = 23) : RG F s.1 (kids F n) (cel F (n + 1)).length := by
  have at' := hW.at
  have hn : n < F.length := by omega
  obtain ⟨g1, g2⟩ := h16 n hn hn (by simp) k
  have ok := hW.ok
  rw [k] at ok
  obtain ⟨-, ne, all⟩ := ok
  have til := hW.til
  have m1 : n + 1 ∈ kids F n := by
    cases hk : kids F n with
    | nil => rw [hk] at ne; exact absurd rfl ne
    | cons r K => rw [hk] at til; rw [til.1]; exact List.mem_cons_self
  have rw' : ∀ r, r ∈ kids F n → kK F r = 24 ∧ r < F.length ∧ ∀ x, x ∈ cel F r → x < F.length ∧ (kK F x = 25 ∨ kK F x = 26 ∨ kK F x = 27 ∨ kK F x = 28) ∧ (kK F x = 25 ∨ kK F x = 28 → x + 1 < F.length ∧ (s.1.2.2.1 (x + 1) = 6 → ∃ v, s.1.2.2.2.1 (x + 1) = nI v ∧ vOk s.1 v)) := by
    intro r hr
    have z := hW.kin hr
    have kr := hW.mk all hr
    refine ⟨kr, z.2.2.2.1, fun x hx => ?_⟩
    obtain ⟨x1, x2⟩ := mem_cel hx
    obtain ⟨M, hM⟩ := hS.1.1 r z.2.2.2.1
    have zx := hM.kin x1
    have okr := hM.ok
    rw [kr] at okr
    obtain ⟨-, c, t, o1, o2, o3⟩ := okr
    have kx : lcK (kK F x) := by
      have : kK F x ∈ c :: t := by rw [← o3]; exact List.mem_map_of_mem x1
      rcases List.mem_cons.mp this with y | y
      · rw [y]; exact o1
      · exact (o2 _ y).resolve_right x2
    refine ⟨zx.2.2.2.1, by unfold lcK at kx; omega, fun kc => ?_⟩
    obtain ⟨M', hM'⟩ := hS.1.1 x zx.2.2.2.1
    have okx := hM'.ok
    have k1 : ∃ a, (a = 6 ∨ a = 33) ∧ (kids F x).map (kK F) = [a] := by
      rcases kc with y | y
      · rw [y] at okx
        rcases okx.2.2 with w | w
        · exact ⟨6, Or.inl rfl, w⟩
        · exact ⟨33, Or.inr rfl, w⟩
      · rw [y] at okx
        exact ⟨6, Or.inl rfl, okx.2.2⟩
    obtain ⟨a, ha, eks⟩ := k1
    obtain ⟨q1, q2, q3, q4⟩ := hM'.k1 eks
    refine ⟨q3, fun z6 => ?_⟩
    have we := hS.kid hM' zx.2.2.2.1 (c := x + 1) (by rw [q1]; exact List.mem_cons_self) (by omega) (by rw [q2]; unfold exK; omega)
    have k6 : kK F (x + 1) = 6 := by
      rcases hS.ks q3 with y | ⟨y, -⟩
      · rw [y] at z6
        exact (nI_eq (b := 6) (by have := hS.1.2.1 _ q3; omega) (by omega)).mp z6
      · rw [y] at z6; exact absurd z6 (by decide)
    obtain ⟨v, v1, v2, -⟩ := (hS.v q3).1 k6 we.2.2
    exact ⟨v, v1, v2⟩
  have c1 : 1 ≤ (cel F (n + 1)).length := by
    obtain ⟨kr, rl, -⟩ := rw' (n + 1) m1
    obtain ⟨M, hM⟩ := hS.1.1 (n + 1) rl
    have okr := hM.ok
    rw [kr] at okr
    obtain ⟨-, c, t, o1, o2, o3⟩ := okr
    cases hk : kids F (n + 1) with
    | nil => rw [hk] at o3; cases o3
    | cons x K =>
      rw [hk] at o3
      have : kK F x = c := by
        have := congrArg List.head? o3
        simpa using this
      unfold cel celK
      rw [hk, List.filter_cons_of_pos (by unfold lcK at o1; simp; omega), List.length_cons]
      omega
  have gm : ∀ row, row < (kids F n).length → (kids F n).getD row 0 ∈ kids F n := fun row hr => List.mem_of_getElem? (getD_some (d := 0) hr)
  refine ⟨g1, c1, (g2 _ m1).1, fun row hr => ⟨(rw' _ (gm row hr)).2.1, (g2 _ (gm row hr)).2⟩, fun row hr l l1 l2 => ?_⟩
  have gr := gm row hr
  have cm : clR F (kids F n) row l ∈ cel F ((kids F n).getD row 0) := List.mem_of_getElem? (getD_some (d := 0) (by rw [(g2 _ gr).2]; omega))
  obtain ⟨x1, x2, x3⟩ := (rw' _ gr).2.2 _ cm
  refine ⟨x1, ?_, by omega, x3⟩
  rcases hS.ks x1 with y | ⟨y, w⟩
  · exact y
  · omega
theorem c212 (xs : List Int32) (d : Nat) {F : List ND} {R : List Nat} {cols : Nat} {m : yM} (h : LG F R cols m) (hR : R.length ≤ 12) (hc : cols ≤ 12) {row l : Nat} (hr : row < R.length) (l1 : 1 ≤ l) (l2 : l ≤ cols) : yC (xg xs) (d + 1) 212 [.ref 42, .int (nI row), .int (nI l)] m (fun r m' => r = some (.int (nI (lsR F R l row))) ∧ m' = m) := by
  obtain ⟨b, rfl⟩ : ∃ b, l = b + 1 := ⟨l - 1, by omega⟩
  have lp : ∀ k, k < R.length → yP (xg xs) (d + 1) 212 2 [(0, .ref 42), (2, .int (nI (b + 1))), (3, .int (nI k))] [] m (fun r m' => r = some (.int (nI (lsR F R (b + 1) k))) ∧ m' = m) := by
    intro k
    induction k with
    | zero => intro _; exact w212_2 xs d _ _ m _ ⟨fun _ => ⟨rfl, rfl⟩, fun z => absurd (by decide) z⟩
    | succ k ih =>
      intro hk
      have e1 : nI (k + 1) - 1 = nI k := by rw [nI_m (by omega)]; rfl
      have e2 : nI (k + 1) + -1 = nI k := by rw [← e1, Int32.sub_eq_add_neg]
      have gk := h.2.2 k (by omega) b (by omega)
      have es : lsR F R (b + 1) (k + 1) = if ln F (R.getD k 0) (b + 1) = true then lsR F R (b + 1) k else k + 1 := rfl
      refine w212_2 xs d _ _ m _ ⟨fun z => ?_, fun _ => ?_⟩
      · have := (nI_leI (b := 0) (by omega) (by omega)).mp z
        omega
      · rw [e1, e2, gI2 k (by omega) b (by omega), nI_clamp (by omega), es]
        refine ⟨x_in_nI (by omega) (by decide), fun z => ?_, fun z => ?_⟩
        · rw [gk.2.mp z]
          exact ⟨rfl, rfl⟩
        · have : ln F (R.getD k 0) (b + 1) = true := by
            cases hq : ln F (R.getD k 0) (b + 1) with
            | false => exact absurd (gk.2.mpr hq) z
            | true => rfl
          rw [if_pos this]
          exact ih (by omega)
  exact w212_0 xs d _ _ m _ (lp row hr)
theorem c213 (xs : List Int32) (d : Nat) {F : List ND} {R : List Nat} {cols : Nat} {m : yM} (h : LG F R cols m) (hR : R.length ≤ 12) (hc : cols ≤ 12) {row l : Nat} (hr : row < R.length) (l1 : 1 ≤ l) (l2 : l ≤ cols) : yC (xg xs) (d + 1) 213 [.ref 42, .int (nI row), .int (nI l)] m (fun r m' => r = some (.int (nI (clR F R row l))) ∧ m' = m) := by
  obtain ⟨b, rfl⟩ : ∃ b, l = b + 1 := ⟨l - 1, by omega⟩
  refine w213_0 xs d _ _ m _ ?_
  rw [gI2 row (by omega) b (by omega), nI_clamp (by omega), (h.2.2 row hr b (by omega)).1]
  exact ⟨x_in_nI (by omega) (by decide), rfl, rfl⟩
theorem c215 (xs : List Int32) (d : Nat) {F : List ND} {R : List Nat} {cols : Nat} {m : yM} (h : LG F R cols m) (hR : R.length ≤ 12) (hc : cols ≤ 12) {row l : Nat} (hr : row < R.length) (l1 : 1 ≤ l) (l2 : l ≤ cols) : yC (xg xs) (d + 2) 215 [.ref 42, .int (nI row), .int (nI l)] m (fun r m' => r = some (.int (pwO F R (m.1 42 8) row l)) ∧ m' = m) := by
  refine w215_0 xs (d + 1) _ _ m _ (y_ci (c212 xs d h hR hc hr l1 l2) (by omega) ⟨rfl, rfl⟩)
theorem c193k (xs : List Int32) (d : Nat) {D : Nat} {C : List IT} {m : yM} {o a : Int32} {P : yM → Prop} (hd : d + 2 ≤ D) (h : CO C m) (hl : C.length + 1 < 2 ^ 30) (k : ∀ m1, CO (C ++ [j1 o a]) m1 → EK m m1 → P m1) : yC (xg xs) D 193 [.ref 42, .int o, .int a] m (fun v1 m1 => v1 = none ∧ P m1) := yC.mono hd (fun _ m1 q => ⟨q.1, k m1 q.2.1 q.2.2⟩) (c193 xs d h hl o a)
theorem c216 (xs : List Int32) (d : Nat) {F : List ND} {σ : RS} {C : List IT} {m : yM} (h : CR F σ m) (hc : CO C m) {n : Nat} (hn : n + 1 < F.length) (h6 : σ.2.2.1 (n + 1) = 6 → ∃ v, σ.2.2.2.1 (n + 1) = nI v ∧ vOk σ v) (hl : C.length + 16 < 2 ^ 30) : yC (xg xs) (d + 3) 216 [.ref 42, .int (nI n)] m (fun r m' => r = none ∧ CO (C ++ cnC σ n) m' ∧ EK m m') := by
  have hf := h.f
  have xi : x_in (nI n) 16401 = true := x_in_nI (by omega) (by decide)
  have ec : cnC σ n = (if σ.2.2.2.1 n = 3 then [j1 1 (σ.2.2.2.2 n)] else []) ++ ([j1 1 (opC σ (n + 1))] ++ ((if σ.2.2.2.1 n = 2 then [j1 1 (σ.2.2.2.2 n)] else []) ++ ((if σ.2.2.2.1 n = 0 then [] else [j1 8 2]) ++ ([j1 7 10] ++ (if σ.2.2.2.1 n < 2 then [] else [j1 7 10, j1 1 (opC σ (n + 1)), j1 2 (σ.2.2.2.2 n)]))))) := rfl
  have k1 := c198 xs d h hn h6
  have eo : opC σ (n + 1) = (if σ.2.2.1 (n + 1) = 6 then (vD σ (σ.2.2.2.1 (n + 1)).toNatClampNeg).2.2.2 else σ.2.2.2.1 (n + 1)) := rfl
  rw [← eo] at k1
  have t := h.t (show n < F.length by omega)
  have t5 := t.2.2.1
  have t6 := t.2.2.2.1
  generalize cnC σ n = G at *
  generalize opC σ (n + 1) = cell at *
  generalize σ.2.2.2.1 n = w at *
  generalize σ.2.2.2.2 n = own at *
  have s70 : ∀ C1 m1, CO C1 m1 → EK m m1 → C1.length ≤ C.length + 6 → C1 ++ ([j1 7 10] ++ (if w < 2 then [] else [j1 7 10, j1 1 cell, j1 2 own])) = C ++ G → yP (xg xs) (d + 3) 216 70 [(0, .ref 42), (2, .int w), (3, .int cell), (4, .int own)] [] m1 (fun r m' => r = none ∧ CO (C ++ G) m' ∧ EK m m') := by
    intro C1 m1 c1 e1 l1 ee
    refine w216_70 xs (d + 2) _ _ _ m1 _ (c193k xs d (by omega) c1 (by omega) (fun m2 c2 e2 => ⟨fun z => ⟨rfl, ?_, e1.tr e2⟩, fun z => ?_⟩))
    · rw [if_pos z, List.append_nil] at ee
      rw [← ee]; exact c2
    · rw [if_neg z] at ee
      rw [← ee]
      refine c193k xs d (by omega) c2 (by simp only [List.length_append, List.length_singleton]; omega) (fun m3 c3 e3 => c193k xs d (by omega) c3 (by simp only [List.length_append, List.length_singleton]; omega) (fun m4 c4 e4 => c193k xs d (by omega) c4 (by simp only [List.length_append, List.length_singleton]; omega) (fun m5 c5 e5 => ⟨rfl, ?_, (((e1.tr e2).tr e3).tr e4).tr e5⟩)))
      simpa only [List.append_assoc, List.cons_append, List.nil_append] using c5
  have s59 : ∀ C1 m1, CO C1 m1 → EK m m1 → C1.length ≤ C.length + 5 → C1 ++ ((if w = 0 then [] else [j1 8 2]) ++ ([j1 7 10] ++ (if w < 2 then [] else [j1 7 10, j1 1 cell, j1 2 own]))) = C ++ G → yP (xg xs) (d + 3) 216 59 [(0, .ref 42), (2, .int w), (3, .int cell), (4, .int own)] [] m1 (fun r m' => r = none ∧ CO (C ++ G) m' ∧ EK m m') := by
    intro C1 m1 c1 e1 l1 ee
    refine w216_59 xs (d + 2) _ _ _ m1 _ ⟨fun z => s70 C1 m1 c1 e1 (by omega) ?_, fun z => c193k xs d (by omega) c1 (by omega) (fun m2 c2 e2 => s70 _ m2 c2 (e1.tr e2) (by simp only [List.length_append, List.length_singleton]; omega) ?_)⟩
    · rw [if_pos z, List.nil_append] at ee; exact ee
    · rw [if_neg z] at ee
      rw [← ee, List.append_assoc]
  have s41 : ∀ C1 m1, CO C1 m1 → EK m m1 → C1.length ≤ C.length + 1 → C1 ++ ([j1 1 cell] ++ ((if w = 2 then [j1 1 own] else []) ++ ((if w = 0 then [] else [j1 8 2]) ++ ([j1 7 10] ++ (if w < 2 then [] else [j1 7 10, j1 1 cell, j1 2 own]))))) = C ++ G → yP (xg xs) (d + 3) 216 41 [(0, .ref 42), (2, .int w), (3, .int cell), (4, .int own)] [] m1 (fun r m' => r = none ∧ CO (C ++ G) m' ∧ EK m m') := by
    intro C1 m1 c1 e1 l1 ee
    refine w216_41 xs (d + 2) _ _ _ m1 _ (c193k xs d (by omega) c1 (by omega) (fun m2 c2 e2 => ⟨fun z => s59 _ m2 c2 (e1.tr e2) (by simp only [List.length_append, List.length_singleton]; omega) ?_, fun z => c193k xs d (by omega) c2 (by simp only [List.length_append, List.length_singleton]; omega) (fun m3 c3 e3 => s59 _ m3 c3 ((e1.tr e2).tr e3) (by simp only [List.length_append, List.length_singleton]; omega) ?_)⟩))
    · rw [if_neg z, List.nil_append] at ee
      rw [← ee, List.append_assoc]
    · rw [if_pos z] at ee
      rw [← ee, List.append_assoc, List.append_assoc]
  refine w216_0 xs (d + 2) _ m _ ⟨xi, ?_⟩
  rw [nI_1, nI_clamp (by omega), t5]
  refine y_ci k1 (by omega) ⟨xi, ?_⟩
  rw [t6]
  refine ⟨fun z => s41 C m hc (EK.re m) (by omega) ?_, fun z => c193k xs d (by omega) hc (by omega) (fun m2 c2 e2 => s41 _ m2 c2 e2 (by simp only [List.length_append, List.length_singleton]; omega) ?_)⟩
  · rw [ec, if_neg z, List.nil_append]
  · rw [ec, if_pos z, List.append_assoc]
