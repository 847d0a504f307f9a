/-! THE REFERENCE'S WRITER: ways -/
def bodR (xs : List Int32) (D : Nat) (J : JV) (s : SU) (u : Nat) (bd : Nat → Nat → List IT) (b : Nat) : Prop := ∀ (C : List IT) (m : yM), WR J s u C m → yC (xg xs) D 370 [.ref 58, .int (nI (J.2.2.2 b))] m (fun r m' => r = none ∧ RO J (C ++ bd b (C.length - u)) m' ∧ KF m m')
def exR (xs : List Int32) (D : Nat) (J : JV) (s : SU) (e : Nat → List IT) (c : Nat) : Prop := ∀ (C : List IT) (m : yM), RW J s m → RO J C m → yC (xg xs) D 372 [.ref 58, .int (nI (J.2.2.2 c))] m (fun r m' => r = none ∧ RO J (C ++ e c) m' ∧ KF m m')
def staR (xs : List Int32) (D : Nat) (J : JV) (s : SU) (u : Nat) (f : Nat → List IT) (n : Nat) : Prop := ∀ (C : List IT) (m : yM), WR J s u C m → yC (xg xs) D 371 [.ref 58, .int (nI (J.2.2.2 n))] m (fun r m' => r = none ∧ RO J (C ++ f (C.length - u)) m' ∧ KF m m')
theorem ng_i {j : Nat} (h : j < 20000) : ((-1 : Int32) - nI j).toInt = -1 - (j : Int) := by
  rw [Int32.toInt_sub, nI_toInt (by omega), show (-1 : Int32).toInt = -1 from by decide]
  have : ((-1 : Int) - (j : Int)).bmod (2 ^ 32) = -1 - (j : Int) := by
    apply Int.bmod_eq_of_le <;> omega
  exact this
theorem ng_n {j k : Nat} (h : j < 20000) (hk : k < 2 ^ 30) : ¬ nI k = -1 - nI j := fun z => by
  have a := ng_i h
  rw [← z, nI_toInt (by omega)] at a
  omega
theorem QE.rs {J : JV} {ℓ n P : Nat} {W : List IT} (h : ∀ x, x ∈ W → QE J.2.2.1 ℓ n P x) (hP : P < 2 ^ 30) (hJ : J.2.2.2 n < 20000) : rsE J n W := by
  intro x hx
  rcases h x hx with q | ⟨q1, q2, q3⟩
  · obtain ⟨a, b⟩ := q
    have no : ¬ x.2.2.2.2.1 = mE n := by
      intro z
      rcases b with ⟨b1, b2⟩ | ⟨b1, b2, b3⟩ | ⟨b1, b2, b3⟩
      · rw [b2] at z; unfold mE at z; omega
      · rw [b2] at z; unfold mE mX at z; omega
      · rw [b3] at z; unfold mE at z; omega
    refine ⟨fun z => absurd z no, fun z => ?_⟩
    exfalso
    obtain ⟨z1, z2⟩ := z
    unfold raV at z2
    by_cases c : x.2.2.2.2.1 = 0
    · rw [if_pos c] at z2
      obtain ⟨k, k1, k2⟩ := a c z1
      rw [k2] at z2
      exact ng_n hJ (by omega) z2
    · rw [if_neg c] at z2
      have ev : ¬ x.2.2.2.2.1 % 2 = 1 := by
        rcases b with ⟨b1, b2⟩ | ⟨b1, b2, b3⟩ | ⟨b1, b2, b3⟩
        · omega
        · rw [b2]; unfold mX; omega
        · omega
      rw [if_neg ev] at z2
      exact ng_n (k := 0) hJ (by omega) z2
  · refine ⟨fun _ => ⟨q2, ?_⟩, fun _ => q1⟩
    unfold raV
    rw [q1, if_neg (by unfold mE; omega), if_pos (by unfold mE; omega), show mE n / 2 = n by unfold mE; omega]
theorem c374w (xs : List Int32) (D : Nat) {J : JV} {s : SU} {u n b : Nat} {bd : Nat → Nat → List IT} (hb : bodR xs (D + 1) J s u bd b) {mo : Bool} {l3 l4 l7 : Int32} (hmo : mo = true ↔ ¬ l7 = -1) {C : List IT} {m : yM} (h : WR J s u C m) {Q : Option Value → yM → Prop} (k : ∀ m1, WR J s u (C ++ wy n bd b mo (C.length - u)) m1 → KF m m1 → yP (xg xs) (D + 2) 374 9 [(0, .ref 58), (1, .int (nI (J.2.2.2 n))), (3, .int l3), (4, .int l4), (5, .int l7)] [] m1 Q) : yP (xg xs) (D + 2) 374 142 [(0, .ref 58), (1, .int (nI (J.2.2.2 n))), (3, .int l3), (4, .int l4), (6, .int (nI (J.2.2.2 b))), (7, .int l7)] [] m Q := by
  have hu := h.2.2.1
  refine w374_142 xs (D + 1) _ _ _ _ _ m _ (c369k xs D (by omega) h.2.1 (fun m1 o1 e1 => ?_))
  have l1 : (C ++ [j1 11 0]).length = C.length + 1 := by rw [List.length_append, List.length_singleton]
  have w1 := h.kf e1 o1 (by omega)
  have hbd := hb _ m1 w1
  have p1 : (C ++ [j1 11 0]).length - u = C.length - u + 1 := by rw [l1]; omega
  rw [p1] at hbd
  refine yC.mono (Nat.le_refl _) (fun r m2 q => ⟨q.1, ?_⟩) hbd
  have o2 := q.2.1
  have e2 := q.2.2
  generalize hB : bd b (C.length - u + 1) = B at *
  have s178 : ∀ (E : List IT) (m3 : yM), (E = if mo = true then [(10, 0, 0, 0, mE n, 0)] else []) → RO J (C ++ [j1 11 0] ++ B ++ E) m3 → KF m m3 → yP (xg xs) (D + 2) 374 178 [(0, .ref 58), (1, .int (nI (J.2.2.2 n))), (3, .int l3), (4, .int l4), (7, .int l7), (8, .int (nI (min C.length 3000)))] [] m3 Q := by
    intro E m3 hE o3 e3
    have lE : E.length = if mo = true then 1 else 0 := by rw [hE]; split <;> rfl
    have ll : (C ++ [j1 11 0] ++ B ++ E).length = C.length + 1 + B.length + E.length := by rw [List.length_append, List.length_append, l1]
    refine w374_178 xs (D + 1) _ _ _ _ _ m3 _ (c376k xs D (by omega) o3 (show u ≤ _ by rw [ll]; omega) (by rw [e3.2.1 53 (by omega) (by omega)]; exact h.2.2.2) (fun w hw => ⟨x_in_nI (by omega) (by decide), ?_⟩))
    rw [nI_clamp (by omega)]
    have ea : C ++ [j1 11 0] ++ B ++ E = C ++ (j1 11 0) :: (B ++ E) := by simp only [List.append_assoc, List.cons_append, List.nil_append]
    rw [ea] at o3 ll hw
    have ew : wy n bd b mo (C.length - u) = (11, nI (C.length - u + 1 + B.length + (if mo = true then 1 else 0)), 0, 0, 0, 0) :: (B ++ E) := by
      unfold wy
      rw [hB, hE]
    have o4 : RO J (C ++ wy n bd b mo (C.length - u)) (y_si m3 90 (min C.length 3000) w) := by
      rw [ew]
      refine RO.set (x := j1 11 0) (y := (11, nI (C.length - u + 1 + B.length + (if mo = true then 1 else 0)), 0, 0, 0, 0)) o3 rfl (fun hl => ?_) rfl rfl rfl (fun hl => ?_)
      · rw [hw hl, ll, lE]
        unfold raV
        rw [if_pos rfl]
        show nI _ = nI _
        congr 1
        omega
      · rw [ll] at hl
        omega
    have e4 : KF m (y_si m3 90 (min C.length 3000) w) := e3.si (by omega)
    exact k _ (h.kf e4 o4 (by rw [List.length_append]; omega)) e4
  refine ⟨fun z => s178 [] m2 ?_ ?_ (e1.tr e2), fun z => ?_⟩
  · have : ¬ mo = true := fun y => (hmo.mp y) z
    rw [if_neg this]
  · rw [List.append_nil]; exact o2
  · refine yC.mono (by omega) (fun r m3 q3 => ⟨_, q3.1, s178 [(10, 0, 0, 0, mE n, 0)] m3 ?_ q3.2.1 ((e1.tr e2).tr q3.2.2)⟩) (c369 xs D o2 (10, 0, 0, 0, mE n, 0) rfl ?_ rfl rfl rfl)
    · rw [if_pos (hmo.mpr z)]
    · show _ = raV J (10, 0, 0, 0, mE n, 0)
      unfold raV
      rw [if_neg (show ¬ mE n = 0 by unfold mE; omega), if_pos (show mE n % 2 = 1 by unfold mE; omega), show mE n / 2 = n by unfold mE; omega]
theorem c375 (xs : List Int32) (d : Nat) {m0 : yM} {T : Nat} {J : JV} {s : SU} (hS : HS m0 T J.2.2.1 s) {N c : Nat} (hW : TW m0 T J.2.2.1 N c) (k : kK J.2.2.1 c = 17) (own : Int32) {C : List IT} {m : yM} (h : RW J s m) (ho : RO J C m) : yC (xg xs) (d + 2) 375 [.ref 58, .int (nI (J.2.2.2 c)), .int own] m (fun r m' => r = none ∧ RO J (C ++ rgL J.2.2.1 s.1 own (rgK J.2.2.1 c) 0) m' ∧ KF m m') := by
  obtain ⟨hs, hr, kb, bm, l8, be⟩ := k17_s hW k
  have at' := hW.at
  have hc : c < J.2.2.1.length := by omega
  have zb := hW.kin bm
  have lp : ∀ (L : List Nat) (j x : Nat) (C1 : List IT) (m1 : yM), (kids J.2.2.1 c).drop j = L ++ [lsK J.2.2.1 c] → (L ++ [lsK J.2.2.1 c])[0]? = some x → (∀ r, r ∈ L → r ∈ rgK J.2.2.1 c) → j + L.length ≤ 8192 → RO J C1 m1 → KF m m1 → yP (xg xs) (d + 2) 375 13 [(0, .ref 58), (2, .int own), (3, .int (nI j)), (5, .int (nI (J.2.2.2 x)))] [] m1 (fun r m' => r = none ∧ RO J (C1 ++ rgL J.2.2.1 s.1 own L j) m' ∧ KF m m') := by
    intro L
    induction L with
    | nil =>
      intro j x C1 m1 ed hx hm hj o1 e1
      have hx : lsK J.2.2.1 c = x := by simpa using hx
      subst hx
      have h1 := h.kf e1
      refine w375_13 xs (d + 1) _ _ _ m1 _ ⟨h1.t.x zb.2.2.2.1, ?_⟩
      rw [h1.t.c zb.2.2.2.1, (h1.t.2.1 _ zb.2.2.2.1).2.1, kb]
      refine ⟨fun _ => ⟨rfl, ?_, e1⟩, fun z => absurd z (by decide)⟩
      show RO J (C1 ++ []) m1
      rw [List.append_nil]; exact o1
    | cons r L ih =>
      intro j x C1 m1 ed hx hm hj o1 e1
      have hx : r = x := by simpa using hx
      subst hx
      rw [List.length_cons] at hj
      obtain ⟨k18, rm⟩ := hr r (hm r List.mem_cons_self)
      have z := hW.kin rm
      have h1 := h.kf e1
      have rl := z.2.2.2.1
      obtain ⟨M, hM⟩ := hS.1.1 r rl
      have ok := hM.ok
      rw [k18] at ok
      obtain ⟨-, a, s', ha, hs', eks⟩ := ok
      obtain ⟨g1, g2, g3⟩ := hM.k0 eks
      have z1 := hM.kin g2
      obtain ⟨cn1, s1⟩ := hS.cn z1.2.2.2.1 (by rw [g3]; exact ha)
      have sz : (szF J.2.2.1 r = 2 ∧ kids J.2.2.1 r = [r + 1]) ∨ (szF J.2.2.1 r = 3 ∧ kids J.2.2.1 r = [r + 1, r + 2] ∧ CN J s.1 (r + 2)) := by
        rcases hs' with rfl | ⟨x, hx, rfl⟩
        · obtain ⟨q1, q2, q3, q4⟩ := hM.k1 eks
          exact Or.inl ⟨by omega, q1⟩
        · obtain ⟨q1, q2, q3, q4, q5⟩ := hM.k2 eks
          obtain ⟨cn2, s2⟩ := hS.cn q4 (by rw [q3]; exact hx)
          have til := hM.til
          rw [q1] at til
          have til : r + 1 + szF J.2.2.1 (r + 1) + szF J.2.2.1 (r + 1 + szF J.2.2.1 (r + 1)) = r + szF J.2.2.1 r := til.2.2
          rw [s1] at q1 cn2
          exact Or.inr ⟨by omega, q1, cn2⟩
      have hk : (kids J.2.2.1 c)[j]? = some r := by
        have := congrArg (fun l => l[0]?) ed
        simpa using this
      have e' : (kids J.2.2.1 c).drop (j + 1) = L ++ [lsK J.2.2.1 c] := by
        have := congrArg (List.drop 1) ed
        rw [List.drop_drop] at this
        simpa using this
      obtain ⟨y, hy⟩ : ∃ y, (L ++ [lsK J.2.2.1 c])[0]? = some y := by
        cases L with
        | nil => exact ⟨_, rfl⟩
        | cons a b => exact ⟨_, rfl⟩
      have hk1 : (kids J.2.2.1 c)[j + 1]? = some y := by
        have := congrArg (fun l => l[0]?) e'
        rw [hy] at this
        simpa using this
      have e0 : rgL J.2.2.1 s.1 own (r :: L) j = [j1 1 own, j1 0 (s.1.2.2.2.1 (r + 1))] ++ ((if szF J.2.2.1 r = 2 then [j1 7 13] else [j1 7 18, j1 1 own, j1 0 (s.1.2.2.2.1 (r + 2)), j1 7 17, j1 7 10]) ++ ((if 1 ≤ j then [j1 7 11] else []) ++ rgL J.2.2.1 s.1 own L (j + 1))) := rfl
      rw [e0]
      have xr := fun (m2 : yM) (e2 : KF m m2) => (h.kf e2).t.x rl
      have cr := fun (m2 : yM) (e2 : KF m m2) => (h.kf e2).t.c rl
      have X := fun (m2 : yM) (e2 : KF m m2) => (h.kf e2).t.2.1 r rl
      -- behind the comparison
      have s153 : ∀ (C2 : List IT) (m2 : yM), RO J C2 m2 → KF m m2 → yP (xg xs) (d + 2) 375 153 [(0, .ref 58), (2, .int own), (3, .int (nI j)), (5, .int (nI (J.2.2.2 r)))] [] m2 (fun r m' => r = none ∧ RO J (C2 ++ ((if 1 ≤ j then [j1 7 11] else []) ++ rgL J.2.2.1 s.1 own L (j + 1))) m' ∧ KF m m') := by
        intro C2 m2 o2 e2
        have s173 : ∀ (C3 : List IT) (m3 : yM), RO J C3 m3 → KF m m3 → yP (xg xs) (d + 2) 375 173 [(0, .ref 58), (2, .int own), (3, .int (nI j + 1)), (5, .int (nI (J.2.2.2 r)))] [] m3 (fun r m' => r = none ∧ RO J (C3 ++ rgL J.2.2.1 s.1 own L (j + 1)) m' ∧ KF m m') := by
          intro C3 m3 o3 e3
          have l68 : m3.1 68 (J.2.2.2 r) = nI (J.2.2.2 y) := by rw [(((h.kf e3).t.2.1 c hc).2.2.2.2.2.2.2.2 j r hk).2.2, hk1]; rfl
          refine w375_173 xs (d + 1) _ _ _ m3 _ ⟨xr m3 e3, ?_⟩
          rw [cr m3 e3, l68, nI_1]
          exact ih (j + 1) y C3 m3 e' hy (fun q hq => hm q (List.mem_cons_of_mem _ hq)) (by omega) o3 e3
        have ij : nI j + 1 ≤ 1 ↔ ¬ 1 ≤ j := by
          rw [nI_1]
          exact (nI_leI (b := 1) (by omega) (by omega)).trans ⟨fun w => by omega, fun w => by omega⟩
        refine w375_153 xs (d + 1) _ _ _ m2 _ ⟨fun w => ?_, fun w => ?_⟩
        · rw [if_neg (ij.mp w), List.nil_append]
          exact s173 C2 m2 o2 e2
        · have yes : 1 ≤ j := Decidable.byContradiction (fun v => w (ij.mpr v))
          rw [if_pos yes]
          refine c369k xs d (by omega) o2 (fun m3 o3 e3 => ?_)
          have := s173 _ m3 o3 (e2.tr e3)
          rw [List.append_assoc] at this
          exact this
      have l66 : lkI J.2.2.2 (kids J.2.2.1 r)[0]? = nI (J.2.2.2 (r + 1)) := by rw [g1]; rfl
      refine w375_13 xs (d + 1) _ _ _ m1 _ ⟨xr m1 e1, ?_⟩
      rw [cr m1 e1, (X m1 e1).2.1, k18]
      refine ⟨fun w => absurd rfl w, fun _ => ⟨xr m1 e1, ?_⟩⟩
      rw [(X m1 e1).2.2.2.2.2.1, l66, (h.kf e1).t.c cn1.1, ((h.kf e1).t.2.1 _ cn1.1).2.2.2.1 cn1.2.2.2.1, ← cn1.2.2.2.2]
      refine ⟨(h.kf e1).t.x cn1.1, c369k xs d (by omega) o1 (fun m2 o2 e2 => c369k xs d (by omega) o2 (fun m3 o3 e3 => ⟨xr m3 ((e1.tr e2).tr e3), ?_⟩))⟩
      have e13 := (e1.tr e2).tr e3
      rw [(X m3 e13).2.2.2.2.2.2.2.1]
      rcases sz with ⟨q1, q2⟩ | ⟨q1, q2, cn2⟩
      · rw [q2]
        refine ⟨fun w => absurd rfl w, fun _ => c369k xs d (by omega) o3 (fun m4 o4 e4 => ?_)⟩
        rw [if_pos q1]
        have := s153 _ m4 o4 (e13.tr e4)
        simpa only [List.append_assoc, List.cons_append, List.nil_append] using this
      · have ne2 : ¬ szF J.2.2.1 r = 2 := by omega
        have l67 : lkI J.2.2.2 (kids J.2.2.1 r)[(kids J.2.2.1 r).length - 1]? = nI (J.2.2.2 (r + 2)) := by rw [q2]; rfl
        have kl2 : ¬ nI (kids J.2.2.1 r).length = 1 := by rw [q2]; show ¬ nI 2 = 1; decide
        refine ⟨fun _ => c369k xs d (by omega) o3 (fun m4 o4 e4 => c369k xs d (by omega) o4 (fun m5 o5 e5 => ⟨xr m5 ((e13.tr e4).tr e5), ?_⟩)), fun w => absurd w kl2⟩
        have e15 := (e13.tr e4).tr e5
        rw [(X m5 e15).2.2.2.2.2.2.1, l67, (h.kf e15).t.c cn2.1, ((h.kf e15).t.2.1 _ cn2.1).2.2.2.1 cn2.2.2.2.1, ← cn2.2.2.2.2]
        refine ⟨(h.kf e15).t.x cn2.1, c369k xs d (by omega) o5 (fun m6 o6 e6 => c369k xs d (by omega) o6 (fun m7 o7 e7 => c369k xs d (by omega) o7 (fun m8 o8 e8 => ?_)))⟩
        rw [if_neg ne2]
        have := s153 _ m8 o8 (((e15.tr e6).tr e7).tr e8)
        simpa only [List.append_assoc, List.cons_append, List.nil_append] using this
  obtain ⟨x, hx⟩ : ∃ x, (rgK J.2.2.1 c ++ [lsK J.2.2.1 c])[0]? = some x := by
    cases rgK J.2.2.1 c with
    | nil => exact ⟨_, rfl⟩
    | cons a b => exact ⟨_, rfl⟩
  refine w375_0 xs (d + 1) _ _ m _ ⟨h.t.x hc, ?_⟩
  have l0 : lkI J.2.2.2 (kids J.2.2.1 c)[0]? = nI (J.2.2.2 x) := by rw [hs, hx]; rfl
  rw [h.t.c hc, (h.t.2.1 c hc).2.2.2.2.2.1, l0]
  exact lp (rgK J.2.2.1 c) 0 x C m hs hx (fun r hr => hr) (by omega) ho (KF.re m)
