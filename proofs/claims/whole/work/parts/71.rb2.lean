/-! RULES: declarations of the class -/
def setVr (σ : RS) (v : Nat) (y : Int32 × Nat × Int32 × Int32) : RS := (σ.1, σ.2.1.set v ((σ.2.1.getD v dVK).1, some y), σ.2.2)
def setC (σ : RS) (b : Nat) (c : Int32) : RS := (σ.1.set b ((σ.1.getD b dBK).1, (σ.1.getD b dBK).2.1, (σ.1.getD b dBK).2.2.1, c, (σ.1.getD b dBK).2.2.2.2), σ.2.1, σ.2.2)
def decl (σ : RS) (nm : Int32) : RS := (σ.1, σ.2.1 ++ [(nm, none)], σ.2.2)
theorem getD_set {α : Type} (l : List α) (i j : Nat) (x d : α) (hi : i < l.length) : (l.set i x).getD j d = if j = i then x else l.getD j d := by
  rw [List.getD_eq_getElem?_getD, List.getD_eq_getElem?_getD, List.getElem?_set]
  by_cases y : j = i
  · subst y
    rw [if_pos rfl, if_pos rfl, if_pos hi]
    rfl
  · rw [if_neg (fun z => y z.symm), if_neg y]
theorem getD_app {α : Type} (l : List α) (j : Nat) (x d : α) : (l ++ [x]).getD j d = if j < l.length then l.getD j d else if j = l.length then x else d := by
  rw [List.getD_eq_getElem?_getD, List.getD_eq_getElem?_getD, List.getElem?_append]
  split
  · rfl
  · split
    · rename_i z; rw [z]; simp
    · rename_i z1 z2
      rw [List.getElem?_eq_none (by simp; omega)]
      rfl
theorem lix_set (V : List VK) (v : Nat) (hv : v < V.length) (y : Option (Int32 × Nat × Int32 × Int32)) (nm : Int32) : ∀ n, lix (V.set v ((V.getD v dVK).1, y)) nm n = lix V nm n
  | 0 => rfl
  | n + 1 => by
    unfold lix
    rw [lix_set V v hv y nm n, getD_set _ _ _ _ _ hv]
    by_cases z : n = v
    · rw [if_pos z, z]
    · rw [if_neg z]
theorem lix_app (V : List VK) (x : VK) (nm : Int32) : ∀ n, n ≤ V.length → lix (V ++ [x]) nm n = lix V nm n
  | 0, _ => rfl
  | n + 1, hn => by
    unfold lix
    have eg : (V ++ [x]).getD n dVK = V.getD n dVK := by rw [getD_app, if_pos (by omega)]
    rw [lix_app V x nm n (by omega), eg]
theorem bix_set (B : List BK) (b : Nat) (hb : b < B.length) (x : BK) (hx : x.2.2.1 = (B.getD b dBK).2.2.1) (nm : Int32) : ∀ n, bix (B.set b x) nm n = bix B nm n
  | 0 => rfl
  | n + 1 => by
    unfold bix
    rw [bix_set B b hb x hx nm n, getD_set _ _ _ _ _ hb]
    by_cases z : n = b
    · rw [if_pos z, hx, z]
    · rw [if_neg z]
theorem bix_app (B : List BK) (x : BK) (nm : Int32) : ∀ n, n ≤ B.length → bix (B ++ [x]) nm n = bix B nm n
  | 0, _ => rfl
  | n + 1, hn => by
    unfold bix
    have eg : (B ++ [x]).getD n dBK = B.getD n dBK := by rw [getD_app, if_pos (by omega)]
    rw [bix_app B x nm n (by omega), eg]
theorem lix_s (V : List VK) (nm : Int32) (n : Nat) : lix V nm (n + 1) = if (V.getD n dVK).1 = nm then nI n else lix V nm n := rfl
theorem bix_s (B : List BK) (nm : Int32) (n : Nat) : bix B nm (n + 1) = if (B.getD n dBK).2.2.1 = nm then nI n else bix B nm n := rfl
theorem CR.sVr {F : List ND} {σ : RS} {m m' : yM} (h : CR F σ m) {v : Nat} (hv : v < σ.2.1.length) {y : Int32 × Nat × Int32 × Int32} (hy : y.2.1 < F.length) (g : ∀ a i, ¬ ((a = 20 ∨ a = 21 ∨ a = 22 ∨ a = 23) ∧ i = v) → m'.1 a i = m.1 a i) (g1 : m'.1 22 v = y.1) (g2 : m'.1 21 v = nI y.2.1) (g3 : m'.1 23 v = y.2.2.1) (g4 : m'.1 20 v = y.2.2.2) : CR F (setVr σ v y) m' := by
  obtain ⟨h1, h2, h3, h4, h5⟩ := h
  have len : (setVr σ v y).2.1.length = σ.2.1.length := List.length_set
  refine ⟨?_, fun b x hb => ?_, fun u x hu => ?_, fun j hj => ?_, fun i hi => ?_⟩
  · rw [len, g _ _ (by omega), g _ _ (by omega), g _ _ (by omega)]
    exact h1
  · rw [len, g _ _ (by omega), g _ _ (by omega), g _ _ (by omega), g _ _ (by omega)]
    exact h2 b x hb
  · have hu : (σ.2.1.set v ((σ.2.1.getD v dVK).1, some y))[u]? = some x := hu
    rw [List.getElem?_set] at hu
    by_cases e : v = u
    · subst e
      rw [if_pos rfl, if_pos hv] at hu
      have hu := Option.some.inj hu
      subst hu
      refine ⟨?_, fun z hz => ?_⟩
      · rw [g _ _ (by omega)]
        exact (h3 v _ (getD_some hv)).1
      · have hz := Option.some.inj hz
        subst hz
        exact ⟨g1, g2, g3, g4, hy⟩
    · rw [if_neg e] at hu
      refine ⟨by rw [g _ _ (by omega)]; exact (h3 u x hu).1, fun z hz => ?_⟩
      rw [g _ _ (by omega), g _ _ (by omega), g _ _ (by omega), g _ _ (by omega)]
      exact (h3 u x hu).2 z hz
  · rw [g _ _ (by omega), g _ _ (by omega), len]
    have e1 : lix (setVr σ v y).2.1 (nI j) σ.2.1.length = lix σ.2.1 (nI j) σ.2.1.length := lix_set _ _ hv _ _ _
    rw [e1]
    exact h4 j hj
  · rw [g _ _ (by omega), g _ _ (by omega), g _ _ (by omega), g _ _ (by omega), g _ _ (by omega)]
    exact h5 i hi
theorem CR.sC {F : List ND} {σ : RS} {m : yM} (h : CR F σ m) {b : Nat} (hb : b < σ.1.length) (c : Int32) : CR F (setC σ b c) (y_si m 26 b c) := by
  obtain ⟨h1, h2, h3, h4, h5⟩ := h
  have g : ∀ a i, ¬ (a = 26 ∧ i = b) → (y_si m 26 b c).1 a i = m.1 a i := fun a i u => by rw [y_si_at, if_neg u]
  have len : (setC σ b c).1.length = σ.1.length := List.length_set
  refine ⟨?_, fun u x hu => ?_, fun u x hu => ?_, fun j hj => ?_, fun i hi => ?_⟩
  · rw [len, g _ _ (by omega), g _ _ (by omega), g _ _ (by omega)]
    exact h1
  · have hu : (σ.1.set b ((σ.1.getD b dBK).1, (σ.1.getD b dBK).2.1, (σ.1.getD b dBK).2.2.1, c, (σ.1.getD b dBK).2.2.2.2))[u]? = some x := hu
    rw [List.getElem?_set] at hu
    by_cases e : b = u
    · subst e
      rw [if_pos rfl, if_pos hb] at hu
      have hu := Option.some.inj hu
      subst hu
      obtain ⟨k1, k2, k3, k4, k5, k6⟩ := h2 b _ (getD_some hb)
      refine ⟨by rw [g _ _ (by omega)]; exact k1, by rw [g _ _ (by omega)]; exact k2, by rw [y_si_at, if_pos ⟨rfl, rfl⟩], by rw [g _ _ (by omega)]; exact k4, k5, k6⟩
    · rw [if_neg e] at hu
      rw [g _ _ (by omega), g _ _ (by omega), g _ _ (by omega), g _ _ (by omega)]
      exact h2 u x hu
  · refine ⟨by rw [g _ _ (by omega)]; exact (h3 u x hu).1, fun z hz => ?_⟩
    rw [g _ _ (by omega), g _ _ (by omega), g _ _ (by omega), g _ _ (by omega)]
    exact (h3 u x hu).2 z hz
  · rw [g _ _ (by omega), g _ _ (by omega), len]
    have e1 : bix (setC σ b c).1 (nI j) σ.1.length = bix σ.1 (nI j) σ.1.length := bix_set σ.1 b hb ((σ.1.getD b dBK).1, (σ.1.getD b dBK).2.1, (σ.1.getD b dBK).2.2.1, c, (σ.1.getD b dBK).2.2.2.2) rfl _ _
    rw [e1]
    exact h4 j hj
  · rw [g _ _ (by omega), g _ _ (by omega), g _ _ (by omega), g _ _ (by omega), g _ _ (by omega)]
    exact h5 i hi
theorem CR.dc {F : List ND} {σ : RS} {m : yM} (h : CR F σ m) (hV : σ.2.1.length < 4096) {j : Nat} (hj : j < 4172) : CR F (decl σ (nI j)) (y_si (y_si (y_si m 18 15 (nI (σ.2.1.length + 1))) 19 σ.2.1.length (nI j)) 29 j (nI σ.2.1.length)) := by
  obtain ⟨h1, h2, h3, h4, h5⟩ := h
  have len : (decl σ (nI j)).2.1.length = σ.2.1.length + 1 := by simp [decl]
  have g : ∀ a i, ¬ (a = 18 ∧ i = 15) → ¬ (a = 19 ∧ i = σ.2.1.length) → ¬ (a = 29 ∧ i = j) → (y_si (y_si (y_si m 18 15 (nI (σ.2.1.length + 1))) 19 σ.2.1.length (nI j)) 29 j (nI σ.2.1.length)).1 a i = m.1 a i := fun a i u1 u2 u3 => by rw [y_si_at, if_neg u3, y_si_at, if_neg u2, y_si_at, if_neg u1]
  refine ⟨?_, fun b x hb => ?_, fun u x hu => ?_, fun i hi => ?_, fun i hi => ?_⟩
  · rw [len]
    refine ⟨h1.1, by omega, h1.2.2.1, by rw [g _ _ (by omega) (by omega) (by omega)]; exact h1.2.2.2.1, ?_, by rw [g _ _ (by omega) (by omega) (by omega)]; exact h1.2.2.2.2.2⟩
    rw [y_si_at, if_neg (by omega), y_si_at, if_neg (by omega), y_si_at, if_pos ⟨rfl, rfl⟩]
  · obtain ⟨k1, k2, k3, k4, k5, k6⟩ := h2 b x hb
    rw [len, g _ _ (by omega) (by omega) (by omega), g _ _ (by omega) (by omega) (by omega), g _ _ (by omega) (by omega) (by omega), g _ _ (by omega) (by omega) (by omega)]
    exact ⟨k1, k2, k3, k4, by omega, k6⟩
  · have hu : (σ.2.1 ++ [(nI j, none)])[u]? = some x := hu
    rw [List.getElem?_append] at hu
    by_cases e : u < σ.2.1.length
    · rw [if_pos e] at hu
      refine ⟨by rw [g _ _ (by omega) (by omega) (by omega)]; exact (h3 u x hu).1, fun z hz => ?_⟩
      rw [g _ _ (by omega) (by omega) (by omega), g _ _ (by omega) (by omega) (by omega), g _ _ (by omega) (by omega) (by omega), g _ _ (by omega) (by omega) (by omega)]
      exact (h3 u x hu).2 z hz
    · rw [if_neg e] at hu
      have eu : u = σ.2.1.length := by
        have := (List.getElem?_eq_some_iff.mp hu).1
        simp at this
        omega
      subst eu
      simp at hu
      subst hu
      refine ⟨?_, fun z hz => by cases hz⟩
      rw [y_si_at, if_neg (by omega), y_si_at, if_pos ⟨rfl, rfl⟩]
  · rw [len]
    have el : lix (decl σ (nI j)).2.1 (nI i) (σ.2.1.length + 1) = if nI j = nI i then nI σ.2.1.length else lix σ.2.1 (nI i) σ.2.1.length := by
      show lix (σ.2.1 ++ [(nI j, none)]) (nI i) (σ.2.1.length + 1) = _
      have eg : (σ.2.1 ++ [(nI j, none)]).getD σ.2.1.length dVK = (nI j, none) := by rw [getD_app, if_neg (by omega), if_pos rfl]
      rw [lix_s, eg, lix_app _ _ _ _ (Nat.le_refl _)]
    rw [el, g 30 i (by omega) (by omega) (by omega)]
    refine ⟨?_, (h4 i hi).2⟩
    by_cases y : i = j
    · rw [y_si_at, if_pos ⟨rfl, y⟩, y, if_pos rfl]
    · rw [g _ _ (by omega) (by omega) (by omega), if_neg (fun z => y ((nI_eq (by omega) (by omega)).mp z).symm)]
      exact (h4 i hi).1
  · rw [g _ _ (by omega) (by omega) (by omega), g _ _ (by omega) (by omega) (by omega), g _ _ (by omega) (by omega) (by omega), g _ _ (by omega) (by omega) (by omega), g _ _ (by omega) (by omega) (by omega)]
    exact h5 i hi
theorem c139 (xs : List Int32) (d : Nat) {F : List ND} {σ : RS} {m : yM} (h : CR F σ m) (hV : σ.2.1.length < 4096) {j : Nat} (hj : j < 4172) : yC (xg xs) (d + 1) 139 [.ref 18, .int (nI j)] m (fun r m' => r = none ∧ (KR m m' ∧ CR F (decl σ (nI j)) m')) := by
  have hl : (if (4096 : Int32) < m.1 18 15 then (4096 : Int32) else m.1 18 15) = nI σ.2.1.length := by
    rw [h.nV.1, if_neg]
    exact fun u => absurd ((nI_ltI (a := 4096) (by omega) (by omega)).mp u) (by omega)
  refine w139_0 xs d _ m _ ?_
  rw [hl, nI_1, nI_clamp (by omega), nI_clamp (by omega)]
  exact ⟨x_in_nI (by omega) (by decide), x_in_nI hj (by decide), rfl, (((KR.re m).si (by omega)).si (by omega)).si (by omega), h.dc hV hj⟩
/-- a name: one that is declared, or one that is read -/
def lkName (σ : RS) (A : List Nat) (n : Nat) : RS ⊕ Int32 :=
  if σ.2.2.1 (fPar A) = 33 then .inl σ
  else if σ.2.2.1 (fPar A) = 5 then (if ¬ fVar σ (σ.2.2.2.1 n) = -1 ∨ ¬ bix σ.1 (σ.2.2.2.1 n) σ.1.length = -1 ∨ isSt (σ.2.2.2.1 n) then .inr 12 else .inl (decl σ (σ.2.2.2.1 n)))
  else lkVar σ 8 n
theorem c132 (xs : List Int32) (d : Nat) {F : List ND} {σ : RS} {A : List Nat} {m : yM} (h : CR F σ m) (hA : PH F A m) (h0 : 0 < σ.1.length) (hD : ¬ σ.2.2.1 (fPar A) = 33 → ¬ σ.2.2.1 (fPar A) = 5 → allD σ) (hV : σ.2.1.length < 4096) {n j : Nat} (hn : n < F.length) (hp : fPar A < F.length) (hv : σ.2.2.2.1 n = nI j) (hj : j < 4172) : yC (xg xs) (d + 4) 132 [.ref 31, .int (nI n)] m (LQ F A m (lkName σ A n)) := by
  have hf := h.f
  have t0 := h.t hn
  have tp := h.t hp
  have e : (nI n).toNatClampNeg = n := nI_clamp (by omega)
  have ep : (nI (fPar A)).toNatClampNeg = fPar A := nI_clamp (by omega)
  have x1 : x_in (nI n) 16401 = true := x_in_nI (by omega) (by decide)
  unfold lkName
  refine w132_0 xs (d + 3) _ m _ (y_ci (c124 xs (d + 2) hA) (by omega) ⟨x_in_nI (by omega) (by decide), ?_⟩)
  rw [ep, tp.1]
  refine ⟨fun u => ?_, fun u => ?_⟩
  · rw [if_neg u]
    refine ⟨fun w => ⟨x1, ?_⟩, fun w => ?_⟩
    · rw [if_pos w, e, t0.2.2.1, hv]
      refine y_ci (c134 xs (d + 2) h h0 hj) (by omega) ⟨fun z => ?_, fun z => ?_⟩
      · rw [if_pos (Or.inl z)]
        exact LQ.no m (by decide)
      · refine y_ci (c137 xs (d + 2) h hj) (by omega) ⟨fun q => ?_, fun q => ?_⟩
        · have nb : ¬ bix σ.1 (nI j) σ.1.length = -1 := by
            intro y
            rw [if_pos y] at q
            exact absurd rfl q
          rw [if_pos (Or.inr (Or.inl nb))]
          exact LQ.no m (by decide)
        · have yb : bix σ.1 (nI j) σ.1.length = -1 := by
            by_cases y : bix σ.1 (nI j) σ.1.length = -1
            · exact y
            · rw [if_neg y] at q; exact absurd q (by decide)
          refine y_ci (c138 xs (d + 2) m _) (by omega) ⟨fun s => ?_, fun s => ?_⟩
          · rw [if_neg (fun y => y.elim (fun y => y z) (fun y => y.elim (fun y => y yb) (if0 s)))]
            refine y_nx (c139 xs (d + 2) h hV hj) (by omega) (fun m' q' => ?_)
            refine ⟨q'.1, rfl, q'.2, hA.1, ?_, fun i x hi => ?_⟩
            · rw [q'.1.1 31 6 (by omega)]; exact hA.2.1
            · rw [q'.1.1 32 i (by omega)]; exact hA.2.2 i x hi
          · rw [if_pos (Or.inr (Or.inr (if1 s)))]
            exact LQ.no m (by decide)
    · rw [if_neg w]
      refine yC.mono (by omega) (fun r m' q => ?_) (c133 xs d h hA h0 (hD u w) hn hv hj)
      rcases hR : lkVar σ 8 n with τ | c
      · rw [hR] at q
        obtain ⟨q1, q2, q3⟩ := q
        exact ⟨0, q2, q1, rfl, q3⟩
      · rw [hR] at q
        obtain ⟨q1, q2, q3⟩ := q
        exact ⟨c, q2, q1, rfl, q3⟩
  · rw [if_pos u]
    exact LQ.ok h hA
