/-! THE REFERENCE'S TREE BY THE CLASS'S NUMBERS -/
def lkI (I : Nat → Nat) (o : Option Nat) : Int32 := match o with
  | none => -1
  | some c => nI (I c)
def ndq (F : List ND) (n : Nat) : NQ := ((F.getD n (0, 0, 0, 0, 1)).1, plF F n, vF F n, vtF F n)
def FX (E : EV) (Rs : List (List Int32)) (m : yM) (F : List ND) (I : Nat → Nat) (n : Nat) : Prop := NDV E Rs m (I n) (ndq F n) ∧ m.1 66 (I n) = lkI I (kids F n)[0]? ∧ m.1 67 (I n) = lkI I (kids F n)[(kids F n).length - 1]? ∧ m.1 69 (I n) = nI (kids F n).length ∧ ∀ (j c : Nat), (kids F n)[j]? = some c → m.1 65 (I c) = nI (I n) ∧ m.1 68 (I c) = lkI I (kids F n)[j + 1]?
theorem lkI.cg {I J : Nat → Nat} {o : Option Nat} (h : ∀ c, o = some c → J c = I c) : lkI J o = lkI I o := by
  cases o with
  | none => rfl
  | some c => unfold lkI; dsimp only; rw [h c rfl]
theorem FX.cg {E : EV} {Rs : List (List Int32)} {m : yM} {F : List ND} {I J : Nat → Nat} {n : Nat} (h : FX E Rs m F I n) (e : J n = I n) (hk : ∀ c, c ∈ kids F n → J c = I c) : FX E Rs m F J n := by
  obtain ⟨h1, h2, h3, h4, h5⟩ := h
  have g : ∀ (j : Nat), lkI J (kids F n)[j]? = lkI I (kids F n)[j]? := fun j => lkI.cg (fun c hc => hk c (List.mem_of_getElem? hc))
  unfold FX
  rw [e, g, g]
  refine ⟨h1, h2, h3, h4, fun j c hc => ?_⟩
  rw [hk c (List.mem_of_getElem? hc), g]
  exact h5 j c hc
def inR (E : EV) (Rs : List (List Int32)) (m : yM) (F : List ND) (I : Nat → Nat) (a e : Nat) : Prop := (∀ n, a ≤ n → n < e → FX E Rs m F I n ∧ ∀ c, c ∈ kids F n → n < c ∧ c < e) ∧ ∀ n n', a ≤ n → n < e → a ≤ n' → n' < e → I n = I n' → n = n'
theorem RT.ix {E : EV} {Rs : List (List Int32)} {m : yM} {F : List ND} : ∀ (N : Nat) (T : CT) (a : Nat), RT E Rs m N T → sub F a T.2.2.2 → 0 < T.2.2.2.length ∧ szF F a = T.2.2.2.length ∧ ∃ I : Nat → Nat, I a = T.1 ∧ inR E Rs m F I a (a + T.2.2.2.length) ∧ ∀ n, a ≤ n → n < a + T.2.2.2.length → T.2.1 ≤ I n ∧ I n < T.2.2.1 := by
  intro N
  induction N with
  | zero => intro T a h; exact absurd h (fun z => z)
  | succ N ih =>
    intro T a h hs
    obtain ⟨b1, b2, q, Cs, eT, hq, hL, hO, hc⟩ := h
    rw [eT] at hs ⊢
    obtain ⟨e0, al⟩ := hs.at (d := (0, 0, 0, 0, 1))
    have e2 : szF F a = (flt Cs).length + 1 := by unfold szF; rw [e0]
    -- the trees below
    have go : ∀ (Cs : List CT) (b : Nat), (∀ (j : Nat) (c : CT), Cs[j]? = some c → RT E Rs m N c ∧ c.2.1 ≤ c.1 ∧ c.1 < c.2.2.1) → (∀ (i j : Nat) (c e : CT), i < j → Cs[i]? = some c → Cs[j]? = some e → c.2.2.1 ≤ e.2.1) → sub F b (flt Cs) → ∃ (I : Nat → Nat) (L : List Nat), tile F L b (b + (flt Cs).length) ∧ L.map I = Cs.map (fun c => c.1) ∧ (∀ c, c ∈ L → 0 < szF F c) ∧ inR E Rs m F I b (b + (flt Cs).length) ∧ ∀ n, b ≤ n → n < b + (flt Cs).length → ∃ (j : Nat) (c : CT), Cs[j]? = some c ∧ c.2.1 ≤ I n ∧ I n < c.2.2.1 := by
      intro Cs
      induction Cs with
      | nil =>
        intro b _ _ _
        have z : (flt ([] : List CT)).length = 0 := rfl
        exact ⟨fun _ => 0, [], by rw [z]; rfl, rfl, fun c hc => by simp at hc, ⟨fun n h1 h2 => by omega, fun n n' h1 h2 => by omega⟩, fun n h1 h2 => by omega⟩
      | cons c Cs ihc =>
        intro b hc ho hs
        have ef : flt (c :: Cs) = c.2.2.2 ++ flt Cs := by simp [flt]
        rw [ef] at hs ⊢
        rw [List.length_append]
        obtain ⟨p0, p1, I1, i1, i2, i3⟩ := ih c b (hc 0 c rfl).1 hs.l
        obtain ⟨I2, L, l1, l2, l3, l4, l5⟩ := ihc (b + c.2.2.2.length) (fun j x hx => hc (j + 1) x (by rw [List.getElem?_cons_succ]; exact hx)) (fun i j x y hij hx hy => ho (i + 1) (j + 1) x y (by omega) (by rw [List.getElem?_cons_succ]; exact hx) (by rw [List.getElem?_cons_succ]; exact hy)) hs.r
        have J1 : ∀ n, n < b + c.2.2.2.length → (if n < b + c.2.2.2.length then I1 n else I2 n) = I1 n := fun n hn => if_pos hn
        have J2 : ∀ n, b + c.2.2.2.length ≤ n → (if n < b + c.2.2.2.length then I1 n else I2 n) = I2 n := fun n hn => if_neg (by omega)
        refine ⟨fun n => if n < b + c.2.2.2.length then I1 n else I2 n, b :: L, ⟨rfl, ?_⟩, ?_, fun x hx => ?_, ⟨fun n h1 h2 => ?_, fun n n' h1 h2 h3 h4 e => ?_⟩, fun n h1 h2 => ?_⟩
        · rw [p1, ← Nat.add_assoc]; exact l1
        · have em : L.map (fun n => if n < b + c.2.2.2.length then I1 n else I2 n) = L.map I2 := List.map_congr_left (fun x hx => J2 x (tile.mem l1 x hx).1)
          rw [List.map_cons, List.map_cons, em, l2, J1 b (by omega), i1]
        · rcases List.mem_cons.mp hx with rfl | y
          · omega
          · exact l3 x y
        · rcases Nat.lt_or_ge n (b + c.2.2.2.length) with y | y
          · have f := i2.1 n h1 y
            refine ⟨f.1.cg (J1 n y) (fun x hx => J1 x (f.2 x hx).2), fun x hx => ?_⟩
            have := f.2 x hx
            omega
          · have f := l4.1 n y (by omega)
            refine ⟨f.1.cg (J2 n y) (fun x hx => J2 x (by have := f.2 x hx; omega)), fun x hx => ?_⟩
            have := f.2 x hx
            omega
        · dsimp only at e
          have far : ∀ n n', b ≤ n → n < b + c.2.2.2.length → b + c.2.2.2.length ≤ n' → n' < b + (c.2.2.2.length + (flt Cs).length) → ¬ I1 n = I2 n' := by
            intro n n' a1 a2 a3 a4 u
            have r1 := i3 n a1 a2
            obtain ⟨j, x, x1, x2, x3⟩ := l5 n' a3 (by omega)
            have := ho 0 (j + 1) c x (by omega) rfl (by rw [List.getElem?_cons_succ]; exact x1)
            omega
          rcases Nat.lt_or_ge n (b + c.2.2.2.length) with y | y
          · rw [J1 n y] at e
            rcases Nat.lt_or_ge n' (b + c.2.2.2.length) with y' | y'
            · rw [J1 n' y'] at e
              exact i2.2 n n' h1 y h3 y' e
            · rw [J2 n' y'] at e
              exact absurd e (far n n' h1 y y' h4)
          · rw [J2 n y] at e
            rcases Nat.lt_or_ge n' (b + c.2.2.2.length) with y' | y'
            · rw [J1 n' y'] at e
              exact absurd e.symm (far n' n h3 y' y h2)
            · rw [J2 n' y'] at e
              exact l4.2 n n' y (by omega) y' (by omega) e
        · dsimp only
          rcases Nat.lt_or_ge n (b + c.2.2.2.length) with y | y
          · rw [J1 n y]
            exact ⟨0, c, rfl, i3 n h1 y⟩
          · rw [J2 n y]
            obtain ⟨j, x, x1, x2⟩ := l5 n y (by omega)
            exact ⟨j + 1, x, by rw [List.getElem?_cons_succ]; exact x1, x2⟩
    obtain ⟨I, L, l1, l2, l3, l4, l5⟩ := go Cs (a + 1) (fun j c e => ⟨hc j c e, (hO.1 j c e).2.2.1, (hO.1 j c e).2.2.2.1⟩) hO.2 hs.c
    have ek : kids F a = L := by
      unfold kids
      rw [e2]
      refine tile.kds ?_ l3 (by omega)
      rw [show a + ((flt Cs).length + 1) = a + 1 + (flt Cs).length by omega]
      exact l1
    refine ⟨by simp, by rw [e2, List.length_cons], fun n => if n = a then T.1 else I n, if_pos rfl, ⟨fun n h1 h2 => ?_, fun n n' h1 h2 h3 h4 e => ?_⟩, fun n h1 h2 => ?_⟩
    · rw [List.length_cons] at h2
      by_cases y : n = a
      · subst y
        have Ji : ∀ c, c ∈ L → (if c = n then T.1 else I c) = I c := fun c hc => if_neg (by have := (tile.mem l1 c hc).1; omega)
        have lk : ∀ j : Nat, lkI (fun x => if x = n then T.1 else I x) L[j]? = lkO Cs[j]? := by
          intro j
          have em : (L.map I)[j]? = (Cs.map (fun c => c.1))[j]? := by rw [l2]
          rw [List.getElem?_map, List.getElem?_map] at em
          cases hl : L[j]? with
          | none =>
            rw [hl] at em
            cases hc : Cs[j]? with
            | none => rfl
            | some c => rw [hc] at em; simp at em
          | some x =>
            rw [hl] at em
            cases hc : Cs[j]? with
            | none => rw [hc] at em; simp at em
            | some c =>
              rw [hc] at em
              have em : I x = c.1 := by simpa using em
              show nI (if x = n then T.1 else I x) = _
              rw [Ji x (List.mem_of_getElem? hl), em]
              rfl
        have ll : L.length = Cs.length := by
          have := congrArg List.length l2
          simpa using this
        refine ⟨?_, fun c hc => ?_⟩
        · unfold FX
          rw [ek, ll]
          show NDV E Rs m (if n = n then T.1 else I n) _ ∧ m.1 66 (if n = n then T.1 else I n) = _ ∧ m.1 67 (if n = n then T.1 else I n) = _ ∧ m.1 69 (if n = n then T.1 else I n) = _ ∧ _
          rw [if_pos rfl, lk, lk]
          have enq : ndq F n = q := by unfold ndq plF vF vtF; rw [e0]
          refine ⟨by rw [enq]; exact hq, hL.1, hL.2.1, hL.2.2.1, fun j c hj => ?_⟩
          have em : (L.map I)[j]? = (Cs.map (fun c => c.1))[j]? := by rw [l2]
          rw [List.getElem?_map, List.getElem?_map, hj] at em
          cases hcj : Cs[j]? with
          | none => rw [hcj] at em; simp at em
          | some x =>
            rw [hcj] at em
            have em : I c = x.1 := by simpa using em
            have r := hL.2.2.2 j x hcj
            show m.1 65 (if c = n then T.1 else I c) = _ ∧ m.1 68 (if c = n then T.1 else I c) = _
            rw [Ji c (List.mem_of_getElem? hj), em, lk]
            show m.1 65 x.1 = nI (if n = n then T.1 else I n) ∧ _
            rw [if_pos rfl]
            exact r
        · rw [ek] at hc
          have := tile.mem l1 c hc
          have := l3 c hc
          rw [List.length_cons]
          omega
      · have f := l4.1 n (by omega) (by omega)
        refine ⟨f.1.cg (if_neg y) (fun c hc => if_neg (by have := f.2 c hc; omega)), fun c hc => ?_⟩
        have := f.2 c hc
        rw [List.length_cons]
        omega
    · rw [List.length_cons] at h2 h4
      dsimp only at e
      have far : ∀ n, a < n → n < a + ((flt Cs).length + 1) → ¬ I n = T.1 := by
        intro n a1 a2 u
        obtain ⟨j, x, x1, x2, x3⟩ := l5 n (by omega) (by omega)
        have := (hO.1 j x x1).2.2.2.2
        omega
      by_cases y : n = a
      · by_cases y' : n' = a
        · omega
        · rw [if_pos y, if_neg y'] at e
          exact absurd e.symm (far n' (by omega) h4)
      · by_cases y' : n' = a
        · rw [if_neg y, if_pos y'] at e
          exact absurd e (far n (by omega) h2)
        · rw [if_neg y, if_neg y'] at e
          exact l4.2 n n' (by omega) (by omega) (by omega) (by omega) e
    · rw [List.length_cons] at h2
      dsimp only
      by_cases y : n = a
      · rw [if_pos y]; exact ⟨b1, b2⟩
      · rw [if_neg y]
        obtain ⟨j, x, x1, x2, x3⟩ := l5 n (by omega) (by omega)
        have := hO.1 j x x1
        omega
/-- all nodes of the reference, by the class's numbers -/
def IX (E : EV) (Rs : List (List Int32)) (F : List ND) (I : Nat → Nat) (m : yM) : Prop := (∀ n, n < F.length → I n < 20000 ∧ FX E Rs m F I n) ∧ ∀ n n', n < F.length → n' < F.length → I n = I n' → n = n'
theorem RT.all {E : EV} {Rs : List (List Int32)} {m : yM} {F : List ND} {N id : Nat} (h : RT E Rs m N (id, 0, F.length, F)) (hF : F.length ≤ 16400) : ∃ I : Nat → Nat, I 0 = id ∧ IX E Rs F I m := by
  obtain ⟨p0, p1, I, i1, i2, i3⟩ := RT.ix N (id, 0, F.length, F) 0 h (sub.re F)
  refine ⟨I, i1, fun n hn => ⟨?_, (i2.1 n (Nat.zero_le _) (by simpa using hn)).1⟩, fun n n' h1 h2 e => i2.2 n n' (Nat.zero_le _) (by simpa using h1) (Nat.zero_le _) (by simpa using h2) e⟩
  have := (i3 n (Nat.zero_le _) (by simpa using hn)).2
  have : I n < F.length := this
  omega
