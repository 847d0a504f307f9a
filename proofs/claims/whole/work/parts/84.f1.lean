/-! THE PURE MACHINE IS SAFE, AND KEEPS THE BOUND -/
theorem msr_i (F : List ND) (σ : RS) : ∀ (k b : Nat) (B0 B : Nat → Int), msr F σ k b B0 = .inl B → (∀ x, x < b → B x = B0 x) ∧ ∀ u, b ≤ u → u < b + k → okS (unC F σ 186 u) ∧ ∃ B1 : Nat → Int, (∀ x, x < u → B1 x = B x) ∧ B u = bdV (bdO (unC F σ 186 u) B1)
  | 0, b, B0, B, h => by
    have h : B0 = B := Sum.inl.inj h
    subst h
    exact ⟨fun _ _ => rfl, fun u h1 h2 => by omega⟩
  | k + 1, b, B0, B, h => by
    have es : msr F σ (k + 1) b B0 = if okS (unC F σ 186 b) then (if bdV (bdO (unC F σ 186 b) B0) ≤ 1000000000 then msr F σ k (b + 1) (fun x => if x = b then bdV (bdO (unC F σ 186 b) B0) else B0 x) else .inr (52, b)) else .inr (51, b) := rfl
    rw [es] at h
    by_cases ok : okS (unC F σ 186 b)
    · rw [if_pos ok] at h
      by_cases le : bdV (bdO (unC F σ 186 b) B0) ≤ 1000000000
      · rw [if_pos le] at h
        obtain ⟨i1, i2⟩ := msr_i F σ k (b + 1) _ B h
        have o : ∀ x, x < b → B x = B0 x := fun x hx => by
          rw [i1 x (by omega), if_neg (by omega)]
        refine ⟨o, fun u h1 h2 => ?_⟩
        by_cases c : u = b
        · subst c
          refine ⟨ok, B0, fun x hx => (o x hx).symm, ?_⟩
          rw [i1 u (by omega), if_pos rfl]
        · exact i2 u (by omega) (by omega)
      · rw [if_neg le] at h; cases h
    · rw [if_neg ok] at h; cases h
theorem csF_x {σ : RS} {D : List IT} {u : Nat} {B B1 : Nat → Int} (hu : u ≤ 16) (hB : ∀ x, x < u → B1 x = B x) (hi : ∀ x, x ∈ D → itS σ u (fun _ => True) x) : csF D B1 = csF D B := by
  funext i
  unfold csF
  by_cases c : (D.getD i dIT).1 = 15 ∨ (D.getD i dIT).1 = 16
  · rw [if_pos c, if_pos c]
    rcases Nat.lt_or_ge i D.length with l | l
    · have it := hi _ (List.mem_of_getElem? (getD_some (d := dIT) l))
      have k : ∃ k, (D.getD i dIT).2.1 = nI k ∧ k < u := by
        rcases c with w | w
        · obtain ⟨k, c, e1, e2, -⟩ := it.2.2.2.2.1 w
          exact ⟨k, e1, e2⟩
        · obtain ⟨k, e1, e2, -⟩ := it.2.2.2.2.2.1 w
          exact ⟨k, e1, e2⟩
      obtain ⟨k, e1, e2⟩ := k
      rw [e1, nI_clamp (by omega), hB k e2]
    · exfalso
      have e : D.getD i dIT = dIT := by
        rw [List.getD_eq_getElem?_getD, List.getElem?_eq_none l]
        rfl
      rw [e] at c
      have c : (0 : Int32) = 15 ∨ (0 : Int32) = 16 := c
      exact absurd c (by decide)
  · rw [if_neg c, if_neg c]
theorem all_units {m0 : yM} {T : Nat} {F : List ND} {s : SU} {B : Nat → Int} (now : Int32) (hb : HB m0 T F s) (ho : oRl F s = .inr (F, s, B)) : ∀ u, u < s.1.1.length → CalS (unC F s.1 186) now s.1 B u := by
  obtain ⟨-, -, h16, h3, hm⟩ := oRl_i ho
  have hz := hb.1.1
  have ej := hb.2.2.2.2.2.2.2.2
  obtain ⟨p31, p32⟩ := jn_31 hz.1.1 hz.2.2.2.2.1 hz.2.2.2.2.2 ej
  obtain ⟨p34, p36⟩ := jn_34 hz.1.1 hz.2.2.2.2.1 ej
  obtain ⟨-, hm⟩ := msr_i F s.1 _ 0 _ B hm
  intro u
  induction u using Nat.strongRecOn with
  | ind u ih =>
    intro hu
    have hq : UQ m0 T F s u := ⟨hb, h16, hu, p31, p32, p34, p36⟩
    obtain ⟨ok, B1, b1, b2⟩ := hm u (Nat.zero_le _) (by omega)
    have ul : (unC F s.1 186 u).length ≤ 3000 := by have := un_le F s.1 hu; omega
    have g := unC_G hq
    have gi : ∀ x, x ∈ unC F s.1 186 u → itS s.1 u (fun _ => True) x := fun x hx => (g.1 x hx).1
    have ecs : bdO (unC F s.1 186 u) B1 = bdO (unC F s.1 186 u) B := by
      unfold bdO
      rw [csF_x (by omega) b1 gi]
    have hl : LPz (unC F s.1 186 u) u 60 none 0 (unC F s.1 186 u).length := unC_L (J := jvF F) hz hu hq.ck ul hb.2.2.2.2.1
    refine unit_run (m0 := m0) (T := T) (F := F) hl (by rw [b2, ecs]) (fun b S0 hf hs => ?_) ul
    exact ⟨hq.hp, hu, ul, g.2, gi, fun j hj => unC_D hq ul j (Nat.zero_le _) hj, hf, ok, unC_f (J := jvF F) hz hu, unC_0 hz hu, hs, fun x hx => ih x hx (by omega)⟩
theorem runOk : RunOk := by
  intro m0 T F s B now M hb ho hB
  obtain ⟨-, -, h16, -, -⟩ := oRl_i ho
  have hp := hb.p h16
  have l := hp.l
  obtain ⟨β, e, sp⟩ := all_units now hb ho (s.1.1.length - 1) (by omega)
  have b0 : bsN s.1 0 = cN s.1 (s.1.1.length - 1) := rfl
  have fit : FitB s.1 (s.1.1.length - 1) 0 := by
    refine ⟨?_, fun c _ h2 h3 => ?_⟩
    · have := hp.le (b := 0) (by omega)
      omega
    · obtain ⟨g, g1, g2, g3, g4⟩ := h3
      have := bsN_le s.1 g 0
      rw [Nat.zero_add] at this
      omega
  obtain ⟨f, R, e1, e2, e3⟩ := sp 0 [] M 0 fit (by show 0 + 64 * _ ≤ _; omega)
  refine ⟨f, R, e1, fun r er => ?_, fun r er => ?_⟩
  · have := (e2 r er).2.1
    omega
  · have := e3 r er
    omega
