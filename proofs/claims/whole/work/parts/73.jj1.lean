/-! THE REFERENCE'S RULES: a place -/
def auV (m : yM) (x : Int32) : Nat → Nat → Int32 → Int32
  | 0 => fun _ u => u
  | q + 1 => fun v u => auV m x q (v + 1) (if u = 0 ∧ ¬ m.1 82 v = x then 0 else 1)
theorem auV_c (m : yM) (x : Int32) : ∀ q v u, (u = 0 ∨ u = 1) → (auV m x q v u = 0 ∨ auV m x q v u = 1) ∧ (auV m x q v u = 1 ↔ (u = 1 ∨ ∃ a, v ≤ a ∧ a < v + q ∧ m.1 82 a = x))
  | 0, v, u, hu => ⟨hu, ⟨Or.inl, fun z => z.elim id (fun ⟨a, z1, z2, _⟩ => by omega)⟩⟩
  | q + 1, v, u, hu => by
    have es : auV m x (q + 1) v u = auV m x q (v + 1) (if u = 0 ∧ ¬ m.1 82 v = x then 0 else 1) := rfl
    obtain ⟨h1, h2⟩ := auV_c m x q (v + 1) (if u = 0 ∧ ¬ m.1 82 v = x then 0 else 1) (by split <;> simp)
    rw [es]
    refine ⟨h1, h2.trans ?_⟩
    have i1 : ((if u = 0 ∧ ¬ m.1 82 v = x then (0 : Int32) else 1) = 1) ↔ (u = 1 ∨ m.1 82 v = x) := by
      by_cases p : u = 0 ∧ ¬ m.1 82 v = x
      · rw [if_pos p]
        refine ⟨fun z => absurd z (by decide), fun z => ?_⟩
        rcases z with z | z
        · rw [p.1] at z; exact absurd z (by decide)
        · exact absurd z p.2
      · rw [if_neg p]
        refine ⟨fun _ => ?_, fun _ => rfl⟩
        rcases hu with z | z
        · exact Or.inr (Decidable.byContradiction (fun y => p ⟨z, y⟩))
        · exact Or.inl z
    rw [i1]
    constructor
    · rintro ((z | z) | ⟨a, a1, a2, a3⟩)
      · exact Or.inl z
      · exact Or.inr ⟨v, Nat.le_refl _, by omega, z⟩
      · exact Or.inr ⟨a, by omega, by omega, a3⟩
    · rintro (z | ⟨a, a1, a2, a3⟩)
      · exact Or.inl (Or.inl z)
      · rcases Nat.lt_or_ge v a with y | y
        · exact Or.inr ⟨a, by omega, by omega, a3⟩
        · have : a = v := by omega
          subst this
          exact Or.inl (Or.inr a3)
theorem c339 (xs : List Int32) (d : Nat) {J : JV} {D : Nat → Prop} {σ : RS} {m : yM} (h : RJ J D σ m) (h0 : 0 < σ.1.length) {A : List Nat} {U : Nat → Bool} {n w k j : Nat} (hn : n < J.2.2.1.length) (kn : kK J.2.2.1 n = 7) (hvt : vtF J.2.2.1 n = 0) (hv : vF J.2.2.1 n = nI (256 * w + k)) (hp : fPar A < J.2.2.1.length) (hjs : ∀ i, i ≤ j → (kids J.2.2.1 (fPar A))[i]? = some (fPar A + 1 + i)) (ej : n = fPar A + 1 + j) (j1 : 1 ≤ j) (hU : inB σ 3 → (U (plC w k) = true ↔ ∃ v, (curB σ).2.2.2.2 ≤ v ∧ v < σ.2.1.length ∧ m.1 82 v = nI (256 * w + k))) : yC (xg xs) (d + 2) 339 [.ref 58, .int (nI (J.2.2.2 n))] m (JQ J (fun i => D i ∨ i = n) m n (lkPlc σ A U n w k)) := by
  have hT := h.1
  have hR := h.2.1
  have hj : (kids J.2.2.1 (fPar A))[j]? = some n := by rw [ej]; exact hjs j (Nat.le_refl _)
  obtain ⟨b1, b2⟩ := hR.nB
  obtain ⟨v1, v2⟩ := hR.nV
  have l16 := hT.2.2.2.2.2
  have cf := hR.cf h0
  have xi := hT.x hn
  have ei := hT.c hn
  have e64 : m.1 64 (J.2.2.2 n) = nI (256 * w + k) := by rw [(hT.2.1 n hn).2.2.2.1 hvt, hv]
  have up := (hT.up hp ⟨j, hj⟩).2
  have hb := hR.b (show σ.1.length - 1 < σ.1.length by omega)
  have inb : (curB σ).1 = 3 ↔ inB σ 3 := ⟨fun z => ⟨h0, z⟩, fun z => z.2⟩
  -- the end
  have s114 : ∀ (u : Int32) (b : Bool), u = (if b = true then 1 else 0) → b = decide (plP σ A U n w k) → yP (xg xs) (d + 2) 339 114 [(1, .int (nI (J.2.2.2 n)))] [.int u, .int (14 : Int32), .ref 58] m (JQ J (fun i => D i ∨ i = n) m n (lkPlc σ A U n w k)) := by
    intro u b hu hb
    unfold lkPlc
    refine w339_114 xs (d + 1) _ _ _ m _ ?_
    subst hu
    by_cases q : plP σ A U n w k
    · rw [hb, decide_eq_true q, if_pos rfl, if_pos q]
      exact rl1 (by omega) hT hn hR.f0 ⟨rfl, (JK.re m).fl J 14 n, FE.mk J m (by decide) n⟩
    · rw [hb, decide_eq_false q, if_neg (by decide), if_neg q]
      refine rl0 ⟨rfl, JK.re m, RJ.up h hn (JK.re m) (fun _ _ _ _ => rfl) (fun _ _ _ _ _ => rfl) (fun _ _ => rfl) rfl rfl (fun i hi => ⟨rfl, upI_o _ _ hi, rfl⟩) (by omega) (fun z => by omega) (nvR.tr ?_ (by omega))⟩
      rw [kn]; decide
  have bad : plP σ A U n w k → yP (xg xs) (d + 2) 339 109 [(1, .int (nI (J.2.2.2 n)))] [.int (14 : Int32), .ref 58] m (JQ J (fun i => D i ∨ i = n) m n (lkPlc σ A U n w k)) := fun q => w339_109 xs (d + 1) _ _ m _ (s114 1 true rfl (decide_eq_true q).symm)
  -- names before it
  have s68 : ∀ (q a : Nat) (l2 : Int32), a + q = j → (l2 = 0 ∨ l2 = 1) → (inB σ 3 → (l2 = 1 ↔ U (plC w k) = true)) → yP (xg xs) (d + 2) 339 68 [(0, .ref 58), (1, .int (nI (J.2.2.2 n))), (2, .int l2), (3, .int (nI a)), (4, .int (lkI J.2.2.2 (kids J.2.2.1 (fPar A))[a]?))] [] m (JQ J (fun i => D i ∨ i = n) m n (lkPlc σ A U n w k)) := by
    intro q
    induction q with
    | zero =>
      intro a l2 ha hl hlU
      have : a = j := by omega
      subst this
      have e4 : lkI J.2.2.2 (kids J.2.2.1 (fPar A))[a]? = nI (J.2.2.2 n) := by rw [hj]; rfl
      rw [e4]
      refine w339_68 xs (d + 1) _ _ _ _ m _ ⟨fun _ => ?_, fun z => absurd rfl z⟩
      refine y_ci (c331 xs d hT hR h0) (by omega) ⟨fun z => bad (Or.inl (fun y => z (inb.mpr y))), fun z => ?_⟩
      have ib := inb.mp z
      have l1 : 1 < nI a ↔ 1 < a := nI_ltI (a := 1) (b := a) (by omega) (by omega)
      refine ⟨fun y => bad (Or.inr (Or.inl (by have := l1.mp y; omega))), fun y => ?_⟩
      have a1 : a = 1 := by
        have : ¬ 1 < a := fun x => y (l1.mpr x)
        omega
      refine ⟨fun x => s114 0 false rfl (decide_eq_false ?_).symm, fun x => bad (Or.inr (Or.inr ((hlU ib).mp (hl.resolve_left x))))⟩
      rintro (p | p | p)
      · exact p ib
      · omega
      · have := (hlU ib).mpr p
        rw [x] at this
        exact absurd this (by decide)
    | succ q ih =>
      intro a l2 ha hl hlU
      have lt := (List.getElem?_eq_some_iff.mp hj).1
      have ea := getD_some (d := 0) (show a < (kids J.2.2.1 (fPar A)).length by omega)
      obtain ⟨c1, c2, c3⟩ := hT.kc hp ea
      have e4 : lkI J.2.2.2 (kids J.2.2.1 (fPar A))[a]? = nI (J.2.2.2 ((kids J.2.2.1 (fPar A)).getD a 0)) := by rw [ea]; rfl
      rw [e4]
      refine w339_68 xs (d + 1) _ _ _ _ m _ ⟨fun z => ?_, fun _ => ⟨hT.x c1, ?_⟩⟩
      · have z := (nI_eq (by have := hT.i c1; omega) (by have := hT.i hn; omega)).mp z
        have z := hT.2.2.1 _ _ c1 hn z
        have := hjs a (by omega)
        rw [ea] at this
        have := Option.some.inj this
        omega
      · rw [hT.c c1, c3, nI_1]
        exact ih (a + 1) l2 (by omega) hl hlU
  -- places before it
  have s14 : ∀ (q v : Nat) (u : Int32), v + q = σ.2.1.length → (u = 0 ∨ u = 1) → yP (xg xs) (d + 2) 339 14 [(0, .ref 58), (1, .int (nI (J.2.2.2 n))), (2, .int (auV m (nI (256 * w + k)) q v u)), (3, .int (nI σ.2.1.length))] [] m (JQ J (fun i => D i ∨ i = n) m n (lkPlc σ A U n w k)) → yP (xg xs) (d + 2) 339 14 [(0, .ref 58), (1, .int (nI (J.2.2.2 n))), (2, .int u), (3, .int (nI v))] [] m (JQ J (fun i => D i ∨ i = n) m n (lkPlc σ A U n w k)) := by
    intro q
    induction q with
    | zero =>
      intro v u hv hu K
      have : v = σ.2.1.length := by omega
      subst this
      exact K
    | succ q ih =>
      intro v u hv hu K
      have es : auV m (nI (256 * w + k)) (q + 1) v u = auV m (nI (256 * w + k)) q (v + 1) (if u = 0 ∧ ¬ m.1 82 v = nI (256 * w + k) then 0 else 1) := rfl
      rw [es] at K
      have s46 : ∀ u' : Int32, u' = (if u = 0 ∧ ¬ m.1 82 v = nI (256 * w + k) then 0 else 1) → yP (xg xs) (d + 2) 339 46 [(0, .ref 58), (1, .int (nI (J.2.2.2 n))), (3, .int (nI v))] [.int u'] m (JQ J (fun i => D i ∨ i = n) m n (lkPlc σ A U n w k)) := by
        intro u' hu'
        refine w339_46 xs (d + 1) _ _ _ m _ ?_
        rw [nI_1]
        exact ih (v + 1) u' (by omega) (by rw [hu']; split <;> simp) (by rw [hu']; exact K)
      refine w339_14 xs (d + 1) _ _ _ m _ ⟨fun z => ?_, fun _ => ⟨fun z => w339_41 xs (d + 1) _ _ m _ (s46 1 (by rw [if_neg (fun y => z y.1)])), fun z => ⟨x_in_nI (by omega) (by decide), xi, ?_⟩⟩⟩
      · rw [v1] at z
        have := (nI_leI (by omega) (by omega)).mp z
        omega
      · rw [nI_clamp (by omega), ei, e64]
        refine ⟨fun y => s46 0 (by rw [if_pos ⟨z, y⟩]), fun y => w339_41 xs (d + 1) _ _ m _ (s46 1 (by rw [if_neg (fun x => x.2 y)]))⟩
  have cur : m.1 73 (σ.1.length - 1) = nI (curB σ).2.2.2.2 := hb.2.2.2.2.1
  refine w339_0 xs (d + 1) _ m _ ⟨?_, ?_⟩
  · rw [b1, nI_m h0]; exact x_in_nI (by omega) (by decide)
  · rw [b1, nI_m h0, nI_clamp (by omega), cur]
    refine s14 (σ.2.1.length - (curB σ).2.2.2.2) _ 0 (by omega) (Or.inl rfl) ?_
    obtain ⟨a1, a2⟩ := auV_c m (nI (256 * w + k)) (σ.2.1.length - (curB σ).2.2.2.2) (curB σ).2.2.2.2 0 (Or.inl rfl)
    refine w339_14 xs (d + 1) _ _ _ m _ ⟨fun _ => ⟨xi, ?_⟩, fun z => absurd ?_ z⟩
    · rw [ei, up, hT.c hp, (hT.2.1 _ hp).2.2.2.2.2.1]
      refine ⟨hT.x hp, s68 j 0 _ (by omega) a1 (fun ib => ?_)⟩
      rw [a2, hU ib]
      constructor
      · rintro (z | ⟨a, z1, z2, z3⟩)
        · exact absurd z (by decide)
        · exact ⟨a, z1, by omega, z3⟩
      · rintro ⟨a, z1, z2, z3⟩
        exact Or.inr ⟨a, z1, by omega, z3⟩
    · rw [v1]; exact nI_le (Nat.le_refl _) (by omega)
