/-! THE REFERENCE'S WRITER: units -/
def P20 (A : List Nat) (i : Nat) (s : SU) : Prop := A = [] → 0 < i → inB s.1 3
theorem P20.l {m0 : yM} {T : Nat} {F : List ND} (hF : HF m0 T F) {N : Nat} {A : List Nat} {n : Nat} {s : SU} {σ' : RS} (hp : PA m0 T F N A n) (h1 : P1 F (A ++ [n]) (n + szF F n) s) (e : lk F A s.1 s.2 n = .inl σ') : P20 A (n + szF F n) (σ', nU s.1 s.2 n) := by
  intro hA _
  have nA : n ∈ A ++ [n] := List.mem_append_right _ List.mem_cons_self
  obtain ⟨kn, -, -⟩ := h1.1 n hp.lt.1 (Or.inr nA)
  have n0 : n = 0 := by
    rcases hp.up with ⟨-, y⟩ | ⟨B, p, M, y, -⟩
    · exact y
    · rw [hA] at y
      have := congrArg List.length y
      rw [List.length_append, List.length_nil, List.length_singleton] at this
      omega
  have k0 : s.1.2.2.1 n = 0 := by rw [kn, n0, hF.2.2.1]; rfl
  unfold lk at e
  rw [if_pos k0] at e
  unfold lkText at e
  split at e
  · rename_i q
    split at e
    · rw [inl_e e]
      exact q
    · cases e
  · cases e
theorem jn_20 {m0 : yM} {T N : Nat} {F : List ND} (hF : HF m0 T F) (hW : TW m0 T F N 0) (hz : szF F 0 = F.length) {s : SU} (e : jn F N [] 0 (sg0 F) = .inl s) : inB s.1 3 := by
  have := jn_ind (P := fun A i s => PAll F A i s ∧ P20 A i s) (m0 := m0) (T := T) (F := F) (fun N A n s σ hp h e => ⟨PAll.b hF hp h.1 e, fun z => by simp at z⟩) (fun N A n s σ' hp h e => ⟨PAll.l hF hp h.1 e, P20.l hF hp h.1.1.1 e⟩) N [] 0 (sg0 F) ⟨hW, rfl, fun p hp => by cases hp⟩ ⟨PAll.z (fun j hj => hF.1.k hj), fun _ z => absurd z (Nat.not_lt_zero _)⟩ s e
  exact this.2 rfl (by have := hW.at; omega)
/-- what units leave alone -/
def KU (m m' : yM) : Prop := (∀ a i, a ≠ 58 → a < 89 ∨ (93 < a ∧ a ≠ 95) → m'.1 a i = m.1 a i) ∧ (∀ i, i ≠ 45 → i ≠ 50 → i ≠ 53 → i ≠ 54 → m'.1 58 i = m.1 58 i) ∧ m'.2 = m.2
theorem KU.tr {m m1 m2 : yM} (h : KU m m1) (h2 : KU m1 m2) : KU m m2 := ⟨fun a i x y => by rw [h2.1 a i x y, h.1 a i x y], fun i x y z w => by rw [h2.2.1 i x y z w, h.2.1 i x y z w], h2.2.2.trans h.2.2⟩
theorem KF.u {m m' : yM} (h : KF m m') : KU m m' := ⟨fun a i x y => h.1 a i x (by omega), fun i x y _ _ => h.2.1 i x y, h.2.2⟩
theorem RW.ku {J : JV} {s : SU} {m m' : yM} (h : RW J s m) (k : KU m m') : RW J s m' := by
  obtain ⟨⟨h1, h2, h3⟩, h4, h5⟩ := h
  refine ⟨⟨h1.fr (fun a i x y => k.1 a i (by omega) (by omega)) (k.2.1 12 (by omega) (by omega) (by omega) (by omega)), h2.fr (fun a i x y => k.1 a i (by omega) (by omega)) (fun i hi => k.2.1 i (by omega) (by omega) (by omega) (by omega)), RJ.nd h3 rfl (fun a i x y => k.1 a i (by omega) (by omega))⟩, fun i hi => ?_, fun v hv hv2 => ?_⟩
  · obtain ⟨a, b, c⟩ := h4 i hi
    exact ⟨a, b, by rw [k.1 86 _ (by omega) (by omega)]; exact c⟩
  · rw [k.1 81 _ (by omega) (by omega)]; exact h5 v hv hv2
theorem RO.fr {J : JV} {C : List IT} {m m' : yM} (h : RO J C m) (g1 : m'.1 58 45 = m.1 58 45) (g2 : m'.1 58 50 = m.1 58 50) (g : ∀ a i, (88 < a ∧ a < 93) ∨ a = 95 → m'.1 a i = m.1 a i) : RO J C m' := by
  refine ⟨fun hl => ?_, fun hl => ?_⟩
  · obtain ⟨a, b, c⟩ := h.1 hl
    refine ⟨by rw [g1]; exact a, by rw [g2]; exact b, fun i x hx => ?_⟩
    rw [g 89 i (by omega), g 90 i (by omega), g 91 i (by omega), g 92 i (by omega), g 95 i (by omega)]
    exact c i x hx
  · rw [g1, g2]; exact h.2 hl
theorem seq_l {f : Nat → Nat → List IT} : ∀ (L : List Nat) (x p : Nat), (∀ c, c ∈ L → ∀ p, f c p = []) → seqC f (L ++ [x]) p = f x p
  | [], x, p, _ => by
    show f x p ++ [] = f x p
    rw [List.append_nil]
  | c :: L, x, p, h => by
    show f c p ++ seqC f (L ++ [x]) (p + (f c p).length) = f x p
    rw [h c List.mem_cons_self p, List.nil_append, List.length_nil, Nat.add_zero]
    exact seq_l L x p (fun y hy => h y (List.mem_cons_of_mem _ hy))
theorem seq_kids {m0 : yM} {T : Nat} {F : List ND} {σ : RS} {N n : Nat} (hW : TW m0 T F N n) (k : kK F n = 1 ∨ kK F n = 2 ∨ kK F n = 3) (M : Nat) (pw : Int32) (p : Nat) : ∃ x, (kids F n)[(kids F n).length - 1]? = some x ∧ x ∈ kids F n ∧ (kK F x = 11 ∨ kK F x = 22) ∧ seqC (unT F σ M pw) (kids F n) p = unT F σ M pw x p := by
  have ok := hW.ok
  have sh : ∃ K b, (kids F n).map (kK F) = K ++ [b] ∧ (∀ y, y ∈ K → y = 8 ∨ y = 4) ∧ (b = 11 ∨ b = 22) := by
    rcases k with y | y | y
    · rw [y] at ok
      obtain ⟨-, K, b, e1, e2, e3⟩ := ok
      refine ⟨8 :: K, b, e1, fun z hz => ?_, e3⟩
      rcases List.mem_cons.mp hz with w | w
      · exact Or.inl w
      · exact Or.inr (e2 z w)
    · rw [y] at ok
      obtain ⟨-, K, b, e1, e2, e3⟩ := ok
      exact ⟨K, b, e1, fun z hz => Or.inr (e2 z hz), e3⟩
    · rw [y] at ok
      obtain ⟨-, K, b, e1, e2, e3⟩ := ok
      exact ⟨K, b, e1, fun z hz => Or.inr (e2 z hz), e3⟩
  obtain ⟨K, b, e1, e2, e3⟩ := sh
  have hne : ¬ kids F n = [] := fun z => by
    rw [z] at e1
    have := congrArg List.length e1
    rw [List.length_map, List.length_append, List.length_nil, List.length_singleton] at this
    omega
  obtain ⟨L, x, ex⟩ : ∃ L x, kids F n = L ++ [x] := ⟨_, _, (List.dropLast_concat_getLast hne).symm⟩
  rw [ex, List.map_append] at e1
  have e1 : L.map (kK F) ++ [kK F x] = K ++ [b] := e1
  have e4 : L.map (kK F) = K ∧ kK F x = b := by
    have := List.append_inj' e1 rfl
    exact ⟨this.1, by simpa using this.2⟩
  refine ⟨x, ?_, by rw [ex]; simp, by rw [e4.2]; exact e3, ?_⟩
  · rw [ex, List.length_append, List.length_singleton, Nat.add_sub_cancel, List.getElem?_append_right (Nat.le_refl _), Nat.sub_self]
    rfl
  · rw [ex]
    refine seq_l L x p (fun c hc q => ?_)
    have : kK F c ∈ K := by rw [← e4.1]; exact List.mem_map_of_mem hc
    have := e2 _ this
    unfold unT
    rw [if_neg (by omega), if_neg (by omega)]
theorem c368 (xs : List Int32) (d : Nat) {m0 : yM} {T : Nat} {J : JV} {s : SU} (hY : HY m0 T J.2.2.1 s) (h3 : inB s.1 3) {b : Nat} (hb : b < s.1.1.length) {C : List IT} {m : yM} (h : RW J s m) (ho : RO J C m) (small : C.length ≤ 3000) : yC (xg xs) (d + 567) 368 [.ref 58, .int (nI b)] m (fun r m' => r = none ∧ RO J (C ++ unC J.2.2.1 s.1 186 b) m' ∧ m'.1 93 b = nI (min C.length 3000) ∧ m'.1 93 (b + 1) = nI (min (C ++ unC J.2.2.1 s.1 186 b).length 3000) ∧ (∀ i, ¬ i = b → ¬ i = b + 1 → m'.1 93 i = m.1 93 i) ∧ KU m m') := by
  have hS := hY.1.1
  obtain ⟨nl, kb⟩ := hY.1.2.2.2.1 b hb
  have hW := HZ.w hY.1 nl
  have nB := h.b.1.2.1
  have nV := h.b.1.2.2.1
  obtain ⟨b1, b2, b3, b4, b5, b6, b7⟩ := h.b.b hb
  have eu : unC J.2.2.1 s.1 186 b = bgC s.1 b ++ seqC (unT J.2.2.1 s.1 186 ((s.1.1.getD b dBK).2.2.2.1 - 156)) (kids J.2.2.1 (s.1.1.getD b dBK).2.1) (bgC s.1 b).length := rfl
  obtain ⟨x, x1, x2, x3, x4⟩ := seq_kids (σ := s.1) hW kb 186 ((s.1.1.getD b dBK).2.2.2.1 - 156) (bgC s.1 b).length
  rw [eu, x4]
  generalize hpw : (s.1.1.getD b dBK).2.2.2.1 - 156 = pw at *
  have hgx := gX_of hS.1.1 hY.1.2.2.1 hW kb x2
  have zx := hW.kin x2
  have hWx := hW.2.2.2.2.2.2 x x2
  have last : b + 1 < s.1.1.length ∨ ¬ kK J.2.2.1 (s.1.1.getD b dBK).2.1 = 1 := by
    by_cases w : b + 1 < s.1.1.length
    · exact Or.inl w
    · right
      intro z
      have : b = s.1.1.length - 1 := by omega
      have h3' : (s.1.1.getD (s.1.1.length - 1) dBK).1 = 3 := h3.2
      rw [← this, b7, z] at h3'
      exact absurd h3' (by decide)
  generalize hn : (s.1.1.getD b dBK).2.1 = n at *
  have xb : x_in (nI b) 400 = true := x_in_nI (by omega) (by decide)
  have xb1 : x_in (nI b) 401 = true := x_in_nI (by omega) (by decide)
  have cb : (nI b).toNatClampNeg = b := nI_clamp (by omega)
  have kn31 : kK J.2.2.1 n < 2 ^ 31 := by omega
  have i1 : nI (kK J.2.2.1 n) = 1 ↔ kK J.2.2.1 n = 1 := nI_eq (b := 1) kn31 (by omega)
  -- the state at the beginning
  generalize hm1 : y_si (y_si (y_si m 58 54 (nI b)) 58 53 (m.1 58 45)) 93 b (m.1 58 45) = m1
  have g1 : ∀ a i, ¬ a = 58 → ¬ a = 93 → m1.1 a i = m.1 a i := fun a i p q => by rw [← hm1, y_si_at, if_neg (by omega), y_si_at, if_neg (by omega), y_si_at, if_neg (by omega)]
  have g2 : ∀ i, ¬ i = 53 → ¬ i = 54 → m1.1 58 i = m.1 58 i := fun i p q => by rw [← hm1, y_si_at, if_neg (by omega), y_si_at, if_neg (by omega), y_si_at, if_neg (by omega)]
  have g53 : m1.1 58 53 = nI (min C.length 3000) := by rw [← hm1, y_si_at, if_neg (by omega), y_si_same, ho.s]
  have g54 : m1.1 58 54 = nI b := by rw [← hm1, y_si_at, if_neg (by omega), y_si_at, if_neg (by omega), y_si_same]
  have g93 : m1.1 93 b = nI (min C.length 3000) := by rw [← hm1, y_si_same, ho.s]
  have g93' : ∀ i, ¬ i = b → m1.1 93 i = m.1 93 i := fun i p => by rw [← hm1, y_si_at, if_neg (by omega), y_si_at, if_neg (by omega), y_si_at, if_neg (by omega)]
  have k1 : KU m m1 := ⟨fun a i p q => g1 a i p (by omega), fun i _ _ p q => g2 i p q, by rw [← hm1]; rfl⟩
  have h1 := h.ku k1
  have o1 : RO J C m1 := ho.fr (g2 45 (by omega) (by omega)) (g2 50 (by omega) (by omega)) (fun a i p => g1 a i (by omega) (by omega))
  have fin : ∀ (Z : List IT) (m2 : yM), RO J (C ++ Z) m2 → KF m1 m2 → Z = bgC s.1 b ++ unT J.2.2.1 s.1 186 pw x (bgC s.1 b).length → yP (xg xs) (d + 567) 368 196 [(0, .ref 58), (1, .int (nI b))] [] m2 (fun r m' => r = none ∧ RO J (C ++ (bgC s.1 b ++ unT J.2.2.1 s.1 186 pw x (bgC s.1 b).length)) m' ∧ m'.1 93 b = nI (min C.length 3000) ∧ m'.1 93 (b + 1) = nI (min (C ++ (bgC s.1 b ++ unT J.2.2.1 s.1 186 pw x (bgC s.1 b).length)).length 3000) ∧ (∀ i, ¬ i = b → ¬ i = b + 1 → m'.1 93 i = m.1 93 i) ∧ KU m m') := by
    intro Z m2 o2 e2 hZ
    rw [hZ] at o2
    refine w368_196 xs (d + 566) _ m2 _ ?_
    rw [nI_1, nI_clamp (by omega), o2.s]
    refine ⟨x_in_nI (by omega) (by decide), rfl, o2.fr (by rw [y_si_at, if_neg (by omega)]) (by rw [y_si_at, if_neg (by omega)]) (fun a i p => by rw [y_si_at, if_neg (by omega)]), ?_, by rw [y_si_same], fun i p q => ?_, ?_⟩
    · rw [y_si_at, if_neg (by omega), e2.1 93 b (by omega) (by omega)]; exact g93
    · rw [y_si_at, if_neg (by omega), e2.1 93 i (by omega) (by omega)]; exact g93' i p
    · refine (k1.tr e2.u).tr ⟨fun a i p q => by rw [y_si_at, if_neg (by omega)], fun i _ _ _ _ => by rw [y_si_at, if_neg (by omega)], rfl⟩
  have s127 : ∀ m2, RO J (C ++ bgC s.1 b) m2 → KF m1 m2 → yP (xg xs) (d + 567) 368 127 [(0, .ref 58), (1, .int (nI b)), (2, .int (nI (J.2.2.2 n)))] [] m2 (fun r m' => r = none ∧ RO J (C ++ (bgC s.1 b ++ unT J.2.2.1 s.1 186 pw x (bgC s.1 b).length)) m' ∧ m'.1 93 b = nI (min C.length 3000) ∧ m'.1 93 (b + 1) = nI (min (C ++ (bgC s.1 b ++ unT J.2.2.1 s.1 186 pw x (bgC s.1 b).length)).length 3000) ∧ (∀ i, ¬ i = b → ¬ i = b + 1 → m'.1 93 i = m.1 93 i) ∧ KU m m') := by
    intro m2 o2 e2
    have h2 := h1.kf e2
    have l67 : m2.1 67 (J.2.2.2 n) = nI (J.2.2.2 x) := by rw [(h2.t.2.1 n nl).2.2.2.2.2.2.1, x1]; rfl
    have i11 : nI (kK J.2.2.1 x) = 11 ↔ kK J.2.2.1 x = 11 := nI_eq (b := 11) (by omega) (by omega)
    refine w368_127 xs (d + 566) _ _ m2 _ ⟨h2.t.x nl, ?_⟩
    rw [h2.t.c nl, l67, h2.t.c zx.2.2.2.1, (h2.t.2.1 x zx.2.2.2.1).2.1]
    refine ⟨h2.t.x zx.2.2.2.1, fun z => ⟨h2.t.x zx.2.2.2.1, ?_⟩, fun z => ?_⟩
    · -- a ladder
      have k22 : kK J.2.2.1 x = 22 := by
        rcases x3 with y | y
        · exact absurd (i11.mpr y) z
        · exact y
      have eT : unT J.2.2.1 s.1 186 pw x (bgC s.1 b).length = laC J.2.2.1 s.1 pw (kids J.2.2.1 x) := by
        unfold unT
        rw [if_neg (by omega), if_pos k22]
      rw [(h2.t.2.1 x zx.2.2.2.1).2.2.2.2.2.1]
      have okx := hWx.ok
      rw [k22] at okx
      have lp : ∀ (L : List Nat) (j : Nat) (Z : List IT) (m3 : yM), (kids J.2.2.1 x).drop j = L → RO J (C ++ Z) m3 → KF m1 m3 → Z ++ laC J.2.2.1 s.1 pw L = bgC s.1 b ++ unT J.2.2.1 s.1 186 pw x (bgC s.1 b).length → yP (xg xs) (d + 567) 368 165 [(0, .ref 58), (1, .int (nI b)), (5, .int (lkI J.2.2.2 (kids J.2.2.1 x)[j]?))] [] m3 (fun r m' => r = none ∧ RO J (C ++ (bgC s.1 b ++ unT J.2.2.1 s.1 186 pw x (bgC s.1 b).length)) m' ∧ m'.1 93 b = nI (min C.length 3000) ∧ m'.1 93 (b + 1) = nI (min (C ++ (bgC s.1 b ++ unT J.2.2.1 s.1 186 pw x (bgC s.1 b).length)).length 3000) ∧ (∀ i, ¬ i = b → ¬ i = b + 1 → m'.1 93 i = m.1 93 i) ∧ KU m m') := by
        intro L
        induction L with
        | nil =>
          intro j Z m3 ed o3 e3 eZ
          have : (kids J.2.2.1 x)[j]? = none := by
            have := congrArg List.length ed
            rw [List.length_drop, List.length_nil] at this
            exact List.getElem?_eq_none_iff.mpr (by omega)
          rw [this]
          have e0 : laC J.2.2.1 s.1 pw [] = [] := rfl
          rw [e0, List.append_nil] at eZ
          exact w368_165 xs (d + 566) _ _ m3 _ ⟨fun _ => fin Z m3 o3 e3 eZ, fun w => absurd rfl w⟩
        | cons g L ih =>
          intro j Z m3 ed o3 e3 eZ
          obtain ⟨d1, d2, d3⟩ := drop_s ed
          have gm := List.mem_of_getElem? d1
          have zg := hWx.kin gm
          have h3' := h1.kf e3
          have ls : lkI J.2.2.2 (some g) = nI (J.2.2.2 g) := rfl
          have es : laC J.2.2.1 s.1 pw (g :: L) = rgC J.2.2.1 s.1 pw g ++ laC J.2.2.1 s.1 pw L := rfl
          rw [es] at eZ
          rw [d1, ls]
          obtain ⟨M, hM⟩ := hS.1.1 g zg.2.2.2.1
          refine w368_165 xs (d + 566) _ _ m3 _ ⟨fun w => absurd w (nI_ne1 (h3'.t.i zg.2.2.2.1)), fun _ => ⟨fun w => ?_, fun w => ?_⟩⟩
          · have big : 3000 < (C ++ Z).length := by
              rcases Nat.lt_or_ge 3000 (C ++ Z).length with y | y
              · exact y
              · exact absurd (o3.z.mpr y) w
            refine fin _ m3 ?_ e3 eZ
            rw [← List.append_assoc]
            exact o3.big big _
          · refine yC.mono (by omega) (fun r m4 q => ⟨q.1, h3'.t.x zg.2.2.2.1, ?_⟩) (c378 xs d hY hM (hWx.mk okx.2 gm) (b := b) (pw := pw) ⟨h3', hb, by rw [e3.2.1 54 (by omega) (by omega)]; exact g54, hpw.symm⟩ o3)
            have e4 := e3.tr q.2.2
            rw [h3'.t.c zg.2.2.2.1, (((h1.kf e4).t.2.1 x zx.2.2.2.1).2.2.2.2.2.2.2.2 j g d1).2.2]
            have o4 := q.2.1
            rw [List.append_assoc] at o4
            exact ih (j + 1) _ m4 d2 o4 e4 (by rw [List.append_assoc]; exact eZ)
      exact lp (kids J.2.2.1 x) 0 _ m2 rfl o2 e2 (by rw [eT])
    · have k11 := i11.mp z
      have eT : unT J.2.2.1 s.1 186 pw x (bgC s.1 b).length = wB J.2.2.1 s.1 186 0 x (bgC s.1 b).length := by
        unfold unT
        rw [if_pos k11]
      have w2 : WR J s C.length (C ++ bgC s.1 b) m2 := ⟨h2, o2, by rw [List.length_append]; omega, by rw [e2.2.1 53 (by omega) (by omega), g53, Nat.min_eq_left small]⟩
      have k70 := c370 xs d hY (u := C.length) 186 0 x hWx k11 (by omega) ⟨fun _ => hgx, fun w => absurd rfl w⟩ _ m2 w2
      have pl' : (C ++ bgC s.1 b).length - C.length = (bgC s.1 b).length := by rw [List.length_append]; omega
      rw [pl', ← eT, List.append_assoc] at k70
      exact yC.mono (by omega) (fun r m3 q => ⟨q.1, fin _ m3 q.2.1 (e2.tr q.2.2) rfl⟩) k70
  refine w368_0 xs (d + 566) _ m _ ⟨xb, xb1, ?_⟩
  rw [cb, b2, h.t.c nl, (h.t.2.1 n nl).2.1, hm1]
  have kb1 : (s.1.1.getD b dBK).1 = 1 ↔ kK J.2.2.1 n = 1 := by rw [b7]; exact i1
  refine ⟨h.t.x nl, fun z => s127 m1 ?_ (KF.re m1), fun z => ?_⟩
  · have e : bgC s.1 b = [] := by unfold bgC; rw [if_neg (fun y => z (i1.mpr (kb1.mp y)))]
    rw [e, List.append_nil]; exact o1
  · have kn1 := i1.mp z
    have bl : b + 1 < s.1.1.length := last.resolve_right (fun w => w kn1)
    have e : bgC s.1 b = [j1 0 0, j1 2 0] ++ bgV s.1 (endV s.1 b - (s.1.1.getD b dBK).2.2.2.2) (s.1.1.getD b dBK).2.2.2.2 := by unfold bgC; rw [if_pos (kb1.mpr kn1)]
    have ev : endV s.1 b = (s.1.1.getD (b + 1) dBK).2.2.2.2 := by unfold endV; rw [if_pos bl]
    have fm := hS.fm b hb
    generalize hf0 : (s.1.1.getD b dBK).2.2.2.2 = f0 at *
    have e73 : ∀ m2, KF m1 m2 → m2.1 73 b = nI f0 := fun m2 e2 => by
      have := ((h1.kf e2).b.b hb).2.2.2.2.1
      rw [hf0] at this
      exact this
    have e731 : ∀ m2, KF m1 m2 → m2.1 73 (b + 1) = nI (endV s.1 b) := fun m2 e2 => by rw [((h1.kf e2).b.b bl).2.2.2.2.1, ev]
    have lp2 : ∀ (k v : Nat) (Z : List IT) (m2 : yM), v + k = endV s.1 b → RO J (C ++ Z) m2 → KF m1 m2 → Z ++ bgV s.1 k v = bgC s.1 b → yP (xg xs) (d + 567) 368 68 [(0, .ref 58), (1, .int (nI b)), (2, .int (nI (J.2.2.2 n))), (4, .int (nI v))] [] m2 (fun r m' => r = none ∧ RO J (C ++ (bgC s.1 b ++ unT J.2.2.1 s.1 186 pw x (bgC s.1 b).length)) m' ∧ m'.1 93 b = nI (min C.length 3000) ∧ m'.1 93 (b + 1) = nI (min (C ++ (bgC s.1 b ++ unT J.2.2.1 s.1 186 pw x (bgC s.1 b).length)).length 3000) ∧ (∀ i, ¬ i = b → ¬ i = b + 1 → m'.1 93 i = m.1 93 i) ∧ KU m m') := by
      intro k
      induction k with
      | zero =>
        intro v Z m2 hk o2 e2 eZ
        refine w368_68 xs (d + 566) _ _ _ m2 _ ?_
        rw [nI_1, nI_clamp (by omega), e731 m2 e2]
        refine ⟨x_in_nI (by omega) (by decide), fun _ => s127 m2 ?_ e2, fun w => absurd (nI_le (by omega) (by omega)) w⟩
        have e0 : bgV s.1 0 v = [] := rfl
        rw [e0, List.append_nil] at eZ
        rw [← eZ]; exact o2
      | succ k ih =>
        intro v Z m2 hk o2 e2 eZ
        have vo := hS.aD v (by omega)
        obtain ⟨v1, v2, v3, v4, v5, -⟩ := (h1.kf e2).x vo
        have xv : x_in (nI v) 4700 = true := x_in_nI v2 (by decide)
        have cv : (nI v).toNatClampNeg = v := nI_clamp (by omega)
        have es : bgV s.1 (k + 1) v = (if (vD s.1 v).1 = 0 then [j1 0 (vD s.1 v).2.2.1, j1 2 (vD s.1 v).2.2.2] else []) ++ bgV s.1 k (v + 1) := rfl
        rw [es] at eZ
        refine w368_68 xs (d + 566) _ _ _ m2 _ ?_
        rw [nI_1, nI_clamp (by omega), e731 m2 e2, cv, v3, v4]
        refine ⟨x_in_nI (by omega) (by decide), fun w => ?_, fun _ => ⟨xv, fun w => ?_, fun w => ⟨xv, ?_⟩⟩⟩
        · have := (nI_leI (by omega) (by omega)).mp w
          omega
        · rw [if_neg w, List.nil_append] at eZ
          refine w368_121 xs (d + 566) _ _ _ m2 _ ?_
          rw [nI_1]
          exact ih (v + 1) Z m2 (by omega) o2 e2 eZ
        · rw [if_pos w] at eZ
          refine c369k xs d (by omega) o2 (fun m3 o3 e3 => ⟨xv, ?_⟩)
          rw [((h1.kf (e2.tr e3)).x vo).2.2.2.2.1]
          refine c369k xs d (by omega) o3 (fun m4 o4 e4 => w368_121 xs (d + 566) _ _ _ m4 _ ?_)
          rw [nI_1]
          have o4' : RO J (C ++ (Z ++ [j1 0 (vD s.1 v).2.2.1, j1 2 (vD s.1 v).2.2.2])) m4 := by
            have := o4
            simp only [List.append_assoc, List.cons_append, List.nil_append] at this ⊢
            exact this
          exact ih (v + 1) _ m4 (by omega) o4' ((e2.tr e3).tr e4) (by rw [List.append_assoc]; exact eZ)
    refine c369k xs d (by omega) o1 (fun m2 o2 e2 => c369k xs d (by omega) o2 (fun m3 o3 e3 => ⟨xb1, ?_⟩))
    have e13 := e2.tr e3
    rw [e73 m3 e13]
    have o3' : RO J (C ++ [j1 0 0, j1 2 0]) m3 := by
      have := o3
      rw [List.append_assoc] at this
      exact this
    exact lp2 (endV s.1 b - f0) f0 _ m3 (by omega) o3' e13 e.symm
