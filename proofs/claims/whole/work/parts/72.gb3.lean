/-! RULES: the class's check -/
theorem TW.all {m0 : yM} {T : Nat} {F : List ND} : ∀ (N n : Nat), TW m0 T F N n → ∀ i, n ≤ i → i < n + szF F n → ∃ M, M ≤ N ∧ TW m0 T F M i := by
  intro N
  induction N with
  | zero => intro n h; exact absurd h (fun z => z)
  | succ N ih =>
    intro n h i hi hi2
    have h0 := h
    obtain ⟨h1, h2, h3, h4, h5, h6, h7⟩ := h
    by_cases e : i = n
    · subst e
      exact ⟨N + 1, Nat.le_refl _, h0⟩
    · have go : ∀ (L : List Nat) (a : Nat), tile F L a (n + szF F n) → (∀ c, c ∈ L → TW m0 T F N c) → a ≤ i → ∃ M, M ≤ N ∧ TW m0 T F M i := by
        intro L
        induction L with
        | nil => intro a ht _ ha; have ht : a = n + szF F n := ht; omega
        | cons c L ihL =>
          intro a ht hc ha
          obtain ⟨rfl, ht⟩ := ht
          rcases Nat.lt_or_ge i (c + szF F c) with y | y
          · exact ih c (hc c List.mem_cons_self) i ha y
          · exact ihL _ ht (fun x hx => hc x (List.mem_cons_of_mem _ hx)) y
      obtain ⟨M, M1, M2⟩ := go (kids F n) (n + 1) h6 h7 (by omega)
      exact ⟨M, by omega, M2⟩
theorem TW.at {m0 : yM} {T : Nat} {F : List ND} {N n : Nat} (h : TW m0 T F N n) : n + szF F n ≤ F.length ∧ 0 < szF F n := by
  cases N with
  | zero => exact absurd h (fun z => z)
  | succ N => exact ⟨h.1, h.2.1⟩
/-- the tree as it was read -/
def sg0 (F : List ND) : SU := (([], [], fun i => (F.getD i (0, 0, 0, 0, 1)).1, fun i => vF F i, fun _ => 0), fun _ => false)
theorem c111r (xs : List Int32) (d : Nat) (m : yM) : yC (xg xs) (d + 1) 111 [.ref 18] m (fun r m' => r = none ∧ m' = y_si (y_si (y_si (y_fill (y_fill m 29 4172 (-1)) 30 4172 (-1)) 18 9 0) 18 15 0) 18 10 0) := by
  refine w111_0 xs d m _ (y_cv (c21_29 xs d m (-1)) (by omega) (y_cv (c21_30 xs d _ (-1)) (by omega) ⟨rfl, rfl⟩))
/-- what check answers and leaves -/
def ruQ (F : List ND) (m0 : yM) (R : JR) (r : Option Value) (m' : yM) : Prop := match R with
  | .inl s' => r = some (.int 0) ∧ CJ F m0 [] s' m' ∧ BA s'.1 m'
  | .inr (c, k) => r = some (.int c) ∧ CE F m0 c k m'
theorem c110r (xs : List Int32) (d : Nat) {F : List ND} {m m0 : yM} {T N : Nat} (hT : TF F m) (hF : F.length ≤ 16400) (hW : TW m0 T F N 0) (h0 : szF F 0 = F.length) (hk0 : kK F 0 = 0) {M : Nat} (hM : M ≤ 255) (hj : jp F M [] 0 (sg0 F)) : yC (xg xs) (d + 7) 110 [.ref 31] m (ruQ F m (jn F M [] 0 (sg0 F))) := by
  obtain ⟨z, z1, z2, z3⟩ := hT
  obtain ⟨rfl, z4⟩ := z3 hF
  have hL : 0 < F.length := by have := hW.at.2; omega
  refine w110_0 xs (d + 6) m _ (y_cv (c111r xs (d + 5) m) (by omega) ?_)
  generalize hm1 : y_si (y_si (y_si (y_si (y_si (y_si (y_fill (y_fill m 29 4172 (-1)) 30 4172 (-1)) 18 9 0) 18 15 0) 18 10 0) 31 6 0) 31 7 0) 31 0 (-1) = m1
  have o : ∀ a i, a ≠ 29 → a ≠ 30 → a ≠ 18 → a ≠ 31 → m1.1 a i = m.1 a i := by
    intro a i a1 a2 a3 a4
    rw [← hm1]
    rw [y_si_at, if_neg (by omega), y_si_at, if_neg (by omega), y_si_at, if_neg (by omega), y_si_at, if_neg (by omega), y_si_at, if_neg (by omega), y_si_at, if_neg (by omega), y_fill_o _ _ _ _ _ a2, y_fill_o _ _ _ _ _ a1]
  have f29 : ∀ j, j < 4172 → m1.1 29 j = -1 := by
    intro j hj
    rw [← hm1, y_si_at, if_neg (by omega), y_si_at, if_neg (by omega), y_si_at, if_neg (by omega), y_si_at, if_neg (by omega), y_si_at, if_neg (by omega), y_si_at, if_neg (by omega), y_fill_o _ _ _ _ _ (by decide), y_fill_in _ _ _ _ _ hj]
  have f30 : ∀ j, j < 4172 → m1.1 30 j = -1 := by
    intro j hj
    rw [← hm1, y_si_at, if_neg (by omega), y_si_at, if_neg (by omega), y_si_at, if_neg (by omega), y_si_at, if_neg (by omega), y_si_at, if_neg (by omega), y_si_at, if_neg (by omega), y_fill_in _ _ _ _ _ hj]
  have g9 : m1.1 18 9 = nI 0 := by rw [← hm1]; simp [y_si_at, nI_0]
  have g15 : m1.1 18 15 = nI 0 := by rw [← hm1]; simp [y_si_at, nI_0]
  have g6 : m1.1 31 6 = nI 0 := by rw [← hm1]; simp [y_si_at, nI_0]
  have g7 : m1.1 31 7 = 0 := by rw [← hm1]; simp [y_si_at]
  have g2 : m1.2 = m.2 := by rw [← hm1]; rfl
  have cr : ∀ m2 : yM, (∀ a i, a ≠ 33 → m2.1 a i = m1.1 a i) → CR F (sg0 F).1 m2 := by
    intro m2 k
    refine ⟨⟨by simp [sg0], by simp [sg0], hF, ?_, ?_, ?_⟩, fun b x hb => by simp [sg0] at hb, fun v x hv => by simp [sg0] at hv, fun j hj => ⟨?_, ?_⟩, fun i hi => ?_⟩
    · rw [k 18 9 (by decide), g9]; rfl
    · rw [k 18 15 (by decide), g15]; rfl
    · rw [k 2 5 (by decide), o 2 5 (by decide) (by decide) (by decide) (by decide), z1]
    · rw [k 29 j (by decide), f29 j hj]; rfl
    · rw [k 30 j (by decide), f30 j hj]; rfl
    · obtain ⟨M', -, w⟩ := hW.all N 0 i (Nat.zero_le _) (by omega)
      have ga : F[i]? = some (F.getD i (0, 0, 0, 0, 1)) := getD_some hi
      obtain ⟨q1, q2, q3, q4⟩ := z4 i _ ga
      have oo : ∀ a, a ≠ 33 → a ≠ 29 → a ≠ 30 → a ≠ 18 → a ≠ 31 → m2.1 a i = m.1 a i := fun a a1 a2 a3 a4 a5 => by rw [k a i a1, o a i a2 a3 a4 a5]
      rw [oo 3 (by decide) (by decide) (by decide) (by decide) (by decide), oo 4 (by decide) (by decide) (by decide) (by decide) (by decide), oo 5 (by decide) (by decide) (by decide) (by decide) (by decide), oo 6 (by decide) (by decide) (by decide) (by decide) (by decide), oo 7 (by decide) (by decide) (by decide) (by decide) (by decide)]
      exact ⟨q1, q2, q3, z2.2 i hi, q4, w.at.1, w.at.2⟩
  -- no place is taken
  have lp : ∀ (k i : Nat) (m2 : yM), i + k = 960 → (∀ a b, a ≠ 33 → m2.1 a b = m1.1 a b) → m2.2 = m1.2 → (∀ c, c < i → m2.1 33 c = 0) → yP (xg xs) (d + 7) 110 24 [(0, .ref 31), (1, .int (nI i))] [] m2 (ruQ F m (jn F M [] 0 (sg0 F))) := by
    intro k
    induction k with
    | zero =>
      intro i m2 hi k1 k2 k3
      refine w110_24 xs (d + 6) _ m2 _ ⟨fun _ => ?_, fun u => absurd (nI_le (a := 960) (by omega) (by omega)) u⟩
      have cj : CJ F m [] (sg0 F) m2 := by
        refine ⟨cr m2 k1, ⟨by simp, by rw [k1 31 6 (by decide), g6]; rfl, fun i x e => by simp at e⟩, fun c hc => ?_, by rw [k1 31 7 (by decide), g7], fun a i ha => ?_, k2.trans g2⟩
        · rw [k3 c (by omega)]; rfl
        · rw [k1 a i (by omega), o a i (by omega) (by omega) (by omega) (by omega)]
      refine w110_46 xs (d + 6) _ m2 _ ⟨fun u => ?_, fun _ => ⟨fun u => absurd cj.2.2.2.1 u, fun _ => ?_⟩⟩
      · rw [cj.1.1.2.2.2.2.2] at u
        exact absurd ((nI_ltI (b := 0) (by omega) (by omega)).mp u) (by omega)
      · refine c110n xs d M [] 0 (sg0 F) m2 hj (by simp; omega) cj (Or.inl rfl) (fun s' m' e q b => ?_) (fun c k m' e q => ?_)
        · rw [e]
          have q7 := q.2.2.2.1
          have fin : ruQ F m (.inl s') (some (.int (m'.1 31 7))) m' := by
            rw [q7]
            exact ⟨rfl, q, b hk0⟩
          rw [Nat.zero_add, h0]
          have e25 := q.1.1.2.2.2.2.2
          refine w110_64 xs (d + 6) _ m' _ ⟨fun _ => w110_140 xs (d + 6) _ m' _ ⟨fun _ => w110_163 xs (d + 6) _ m' _ (w110_46 xs (d + 6) _ m' _ ⟨fun _ => fin, fun u => absurd ?_ u⟩), fun u => absurd ?_ u⟩, fun u => absurd ?_ u⟩
          · rw [e25, nI_1]; exact nI_lt (by omega) (by omega)
          · rw [e25]; exact nI_le (Nat.le_refl _) (by omega)
          · rw [q.2.1.2.1]; decide
        · rw [e]
          exact ⟨rfl, q⟩
    | succ k ih =>
      intro i m2 hi k1 k2 k3
      refine w110_24 xs (d + 6) _ m2 _ ⟨fun u => absurd ((nI_leI (a := 960) (by omega) (by omega)).mp u) (by omega), fun _ => ⟨x_in_nI (by omega) (by decide), ?_⟩⟩
      rw [nI_clamp (by omega), nI_1]
      refine ih (i + 1) _ (by omega) (fun a b ha => by rw [y_si_at, if_neg (by omega)]; exact k1 a b ha) k2 (fun c hc => ?_)
      rw [y_si_at]
      by_cases y : c = i
      · rw [if_pos ⟨rfl, y⟩]; rfl
      · rw [if_neg (fun z => y z.2)]; exact k3 c (by omega)
  exact lp 960 0 m1 (by omega) (fun _ _ _ => rfl) rfl (fun c hc => absurd hc (by omega))
