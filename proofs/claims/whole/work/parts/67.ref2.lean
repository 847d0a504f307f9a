/-! TOKENS OF THE REFERENCE: numbers and times, second part -/
theorem c280M (xs : List Int32) (d : Nat) (m : yM) {f : Nat → Nat} {n : Nat} (h : TY m f n) (l4 l6 : Int32) (b : Nat) (hb : 2 ≤ b) (hb2 : b ≤ 16) (Q : Option Value → yM → Prop) (E w : Nat) (K : yP (xg xs) (d + 3) 280 271 [(0, .ref 58), (1, .int (nI E)), (2, .long (lN w)), (4, .int l4), (6, .int l6), (7, .int (nI b))] [] m Q) : ∀ q i v : Nat, i + q = n → rn f (isDg b) q i = E → rvd f b q i v = w → (∃ a, Rr v a) → yP (xg xs) (d + 3) 280 271 [(0, .ref 58), (1, .int (nI i)), (2, .long (lN v)), (4, .int l4), (6, .int l6), (7, .int (nI b))] [] m Q := by
  have h8 := h.2.1
  have hf := h.2.2
  intro q
  induction q with
  | zero =>
    intro i v hi h1 h2 _
    unfold rn at h1
    unfold rvd at h2
    rw [h1, h2]
    exact K
  | succ q ih =>
    intro i v hi h1 h2 h4
    have hi2 : i < n := by omega
    have g := (hf i hi2).1
    have hs1 : rn f (isDg b) (q + 1) i = if isDg b (f i) then rn f (isDg b) q (i + 1) else i := rfl
    have hs2 : rvd f b (q + 1) i v = if dN (f i) < b then rvd f b q (i + 1) (moN v b (dN (f i))) else v := rfl
    by_cases hd : dN (f i) < b
    · rw [hs1, if_pos (by simpa using hd)] at h1
      rw [hs2, if_pos hd] at h2
      have e : do_ (rc f n i) = nI (dN (f i)) := by rw [rc_do (fun z => (hf _ z).1), if_pos hi2]
      refine w280_271 xs (d + 2) _ _ _ _ _ m _ ?_
      refine y_ci (c274x xs d m h i (by omega)) (by omega) ?_
      refine y_ci (c282 xs d m _) (by omega) ?_
      rw [e]
      refine ⟨fun z => absurd z (nI_ge hd (by omega)), fun _ => ?_⟩
      refine y_ci (c274x xs d m h i (by omega)) (by omega) ?_
      refine y_ci (c282 xs d m _) (by omega) ?_
      rw [e]
      obtain ⟨a, ha⟩ := h4
      refine y_cl (c281 xs d m _ _ _) (by omega) ?_
      rw [mo_N ha.1 hb2 (by omega), nI_1]
      have hr := ha.mo (b := b) (g := dN (f i)) (by omega) hb2 (by omega)
      exact ih (i + 1) _ (by omega) h1 h2 ⟨_, hr⟩
    · rw [hs1, if_neg (by simpa using hd)] at h1
      rw [hs2, if_neg hd] at h2
      rw [h1, h2]
      exact K
theorem Rr.big {v a : Nat} (h : Rr v a) : v = a ∨ (2147483647 < v ∧ 2147483647 < a) := by
  obtain ⟨-, h | h⟩ := h
  · exact Or.inl h
  · exact Or.inr ⟨by omega, by omega⟩
theorem Rr.z : Rr 0 0 := ⟨by decide, Or.inl rfl⟩
theorem Rr.cmp {w V c : Nat} (h : Rr w V) (hc : c < 1000) : (lg_cmp (lN w) (lN c) = 0) ↔ V = c := by
  rw [lg_cmp_eq, pk_lEQ (by have := h.1; omega) (by omega)]
  obtain ⟨h1, h2⟩ := h
  omega
theorem c280n (xs : List Int32) (d : Nat) (m : yM) {f : Nat → Nat} {n : Nat} (h : TY m f n) (p : Nat) (h5 : m.1 58 5 = nI p) (hf0 : m.1 58 3 = 0) (hp : p < n) (hD : isDN (f p)) : yC (xg xs) (d + 3) 280 [.ref 58] m (rR m p (numT f n p (rn f (isDg 10) (n - p) p) (dv f 10 (n - p) p 0))) := by
  have h8 := h.2.1
  have hf := h.2.2
  have he := rn_le f (isDg 10) (n - p) p
  have hend := rn_end f (isDg 10) (n - p) p
  have hR := rvd_R f 10 (by decide) (by decide) (n - p) p 0 0 Rr.z
  have lp := c280L xs d m h 1 0 (nI p) (rR m p (numT f n p (rn f (isDg 10) (n - p) p) (dv f 10 (n - p) p 0))) (rn f (isDg 10) (n - p) p) (rvd f 10 (n - p) p 0) ?_ (n - p) p 0 (by omega) rfl rfl (by decide) ⟨0, Rr.z⟩
  · refine w280_0 xs (d + 2) m _ ?_
    rw [h5]
    refine y_ci (c274x xs d m h p (by omega)) (by omega) ?_
    refine y_ci (c278 xs d m _) (by omega) ?_
    refine ⟨fun _ => ?_, fun z => absurd ((rc_D (fun z => (hf _ z).1)).mpr ⟨hp, hD⟩) (y_iff z)⟩
    refine w280_26 xs (d + 2) _ _ _ _ m _ ⟨fun _ => ?_, fun z => absurd rfl z⟩
    exact w280_40 xs (d + 2) _ _ _ _ m _ lp
  · generalize rn f (isDg 10) (n - p) p = E at *
    generalize dv f 10 (n - p) p 0 = V at *
    generalize rvd f 10 (n - p) p 0 = w at *
    have nd : ¬ (E < n ∧ isDN (f E)) := fun z => by
      have e := hend (by omega)
      have e2 := (dN_D _ (hf E z.1).1).mp z.2
      simp at e
      omega
    refine w280_44 xs (d + 2) _ _ _ _ _ m _ ?_
    refine y_ci (c274x xs d m h E (by omega)) (by omega) ?_
    refine y_ci (c278 xs d m _) (by omega) ?_
    refine ⟨fun _ => ⟨fun _ => ?_, fun z => absurd rfl z⟩, fun z => absurd ((rc_D (fun z => (hf _ z).1)).mp (y_ift z)) nd⟩
    refine y_ci (c274x xs d m h E (by omega)) (by omega) ?_
    have i35 : rc f n E = 35 ↔ E < n ∧ f E = 35 := rc_eq (k := 35) (by decide) (by decide) (fun z => (hf _ z).1)
    rw [i35]
    refine ⟨fun z => ?_, fun z => ?_⟩
    · rw [show numT f n p E V = finN f n E V from if_neg z]
      exact c280fin xs d m h p h5 hf0 E w V (by omega) (by have := hR.1; omega) hR.big
    · have L : ∀ (b : Nat) (gd : Int32), 2 ≤ b → b ≤ 16 → (gd = 1 ∧ V = b ∧ (V = 16 ∨ V = 2) ∨ gd = 0 ∧ ¬ (V = 16 ∨ V = 2)) → yP (xg xs) (d + 2 + 1) 280 261 [(0, .ref 58), (1, .int (nI E)), (7, .int (nI b))] [.int gd] m (rR m p (numT f n p E V)) := by
        intro b gd b1 b2 hg
        refine w280_261 xs (d + 2) _ _ _ m _ ?_
        rw [nI_1]
        have he2 := rn_le f (isDg b) (n - (E + 1)) (E + 1)
        have hend2 := rn_end f (isDg b) (n - (E + 1)) (E + 1)
        have hR2 := rvd_R f b (by omega) b2 (n - (E + 1)) (E + 1) 0 0 Rr.z
        refine c280M xs d m h gd (nI (E + 1)) b b1 b2 _ (rn f (isDg b) (n - (E + 1)) (E + 1)) (rvd f b (n - (E + 1)) (E + 1) 0) ?_ (n - (E + 1)) (E + 1) 0 (by omega) rfl rfl ⟨0, Rr.z⟩
        have t0 : numT f n p E V = if V = 16 ∨ V = 2 then (if rn f (isDg V) (n - (E + 1)) (E + 1) = E + 1 then (5, 4, 0) else finN f n (rn f (isDg V) (n - (E + 1)) (E + 1)) (dv f V (n - (E + 1)) (E + 1) 0)) else (5, 4, 0) := if_pos z
        refine w280_271 xs (d + 2) _ _ _ _ _ m _ ?_
        refine y_ci (c274x xs d m h _ (by omega)) (by omega) ?_
        refine y_ci (c282 xs d m _) (by omega) ?_
        rw [rc_do (fun z => (hf _ z).1)]
        have ge : ¬ ((if rn f (isDg b) (n - (E + 1)) (E + 1) < n then dN (f (rn f (isDg b) (n - (E + 1)) (E + 1))) else 99) < b) := by
          by_cases y : rn f (isDg b) (n - (E + 1)) (E + 1) < n
          · rw [if_pos y]
            have e := hend2 (by omega)
            simp at e
            omega
          · rw [if_neg y]; omega
        have le99 : (if rn f (isDg b) (n - (E + 1)) (E + 1) < n then dN (f (rn f (isDg b) (n - (E + 1)) (E + 1))) else 99) ≤ 99 := by
          by_cases y : rn f (isDg b) (n - (E + 1)) (E + 1) < n
          · rw [if_pos y]
            have := dN_le _ (hf _ y).1
            omega
          · rw [if_neg y]; omega
        refine ⟨fun _ => ⟨fun y => ?_, fun y => ⟨fun x => ?_, fun x => ?_⟩⟩, fun y => absurd (nI_le (by omega) (by omega)) y⟩
        · refine w280_320 xs (d + 2) _ _ m _ (w280_321 xs (d + 2) _ _ _ m _ (c280bad xs d m p h5 hf0 _ _ _ ?_))
          rcases hg with ⟨rfl, -⟩ | ⟨-, g2⟩
          · exact absurd y (by decide)
          · rw [t0, if_neg g2]
        · refine w280_320 xs (d + 2) _ _ m _ (w280_321 xs (d + 2) _ _ _ m _ (c280bad xs d m p h5 hf0 _ _ _ ?_))
          rcases hg with ⟨-, rfl, g2⟩ | ⟨rfl, -⟩
          · rw [t0, if_pos g2, if_pos (by have := (nI_leI (by omega) (by omega)).mp x; omega)]
          · exact absurd rfl y
        · refine w280_321 xs (d + 2) _ _ _ m _ ?_
          rcases hg with ⟨-, rfl, g2⟩ | ⟨rfl, -⟩
          · rw [t0, if_pos g2, if_neg (fun q => x (by rw [q]; exact Int32.le_refl _))]
            exact c280fin xs d m h p h5 hf0 _ _ _ (by omega) (by have := hR2.1; omega) hR2.big
          · exact absurd rfl y
      have c16 := hR.cmp (c := 16) (by decide)
      have c2 := hR.cmp (c := 2) (by decide)
      have two : ∀ b : Nat, b = 16 ∨ b = 2 → (V = 16 → b = 16) → (¬ V = 16 → b = 2) → yP (xg xs) (d + 2 + 1) 280 238 [(0, .ref 58), (1, .int (nI E)), (2, .long (lN w))] [.int (nI b)] m (rR m p (numT f n p E V)) := by
        intro b hb hb1 hb2
        refine w280_238 xs (d + 2) _ _ _ m _ ⟨fun y => ?_, fun y => ⟨fun x => ?_, fun x => ?_⟩⟩
        · have v := c16.mp y
          exact w280_256 xs (d + 2) _ _ m _ (L b 1 (by omega) (by omega) (Or.inl ⟨rfl, by rw [v, hb1 v], Or.inl v⟩))
        · have v : ¬ V = 16 := fun q => y (c16.mpr q)
          have v2 : ¬ V = 2 := fun q => x (c2.mpr q)
          exact L b 0 (by omega) (by omega) (Or.inr ⟨rfl, fun q => q.elim v v2⟩)
        · have v : ¬ V = 16 := fun q => y (c16.mpr q)
          have v2 := c2.mp x
          exact w280_256 xs (d + 2) _ _ m _ (L b 1 (by omega) (by omega) (Or.inl ⟨rfl, by rw [v2, hb2 v], Or.inr v2⟩))
      refine ⟨fun y => two 2 (by decide) (fun q => absurd (c16.mpr q) y) (fun _ => rfl), fun y => two 16 (by decide) (fun _ => rfl) (fun q => absurd (c16.mp y) q)⟩
theorem c280t (xs : List Int32) (d : Nat) (m : yM) {f : Nat → Nat} {n : Nat} (h : TY m f n) (p : Nat) (h5 : m.1 58 5 = nI p) (hf0 : m.1 58 3 = 0) (hp : p + 2 ≤ n) (hD : ¬ isDN (f p)) : yC (xg xs) (d + 3) 280 [.ref 58] m (rR m p (timT f n p (rn f (isDg 10) (n - (p + 2)) (p + 2)) (dv f 10 (n - (p + 2)) (p + 2) 0))) := by
  have h8 := h.2.1
  have hf := h.2.2
  have he := rn_le f (isDg 10) (n - (p + 2)) (p + 2)
  have hend := rn_end f (isDg 10) (n - (p + 2)) (p + 2)
  have hR := rvd_R f 10 (by decide) (by decide) (n - (p + 2)) (p + 2) 0 0 Rr.z
  have lp := c280L xs d m h 1 1 (nI (p + 2)) (rR m p (timT f n p (rn f (isDg 10) (n - (p + 2)) (p + 2)) (dv f 10 (n - (p + 2)) (p + 2) 0))) (rn f (isDg 10) (n - (p + 2)) (p + 2)) (rvd f 10 (n - (p + 2)) (p + 2) 0) ?_ (n - (p + 2)) (p + 2) 0 (by omega) rfl rfl (by decide) ⟨0, Rr.z⟩
  · refine w280_0 xs (d + 2) m _ ?_
    rw [h5]
    refine y_ci (c274x xs d m h p (by omega)) (by omega) ?_
    refine y_ci (c278 xs d m _) (by omega) ?_
    refine ⟨fun z => absurd ((rc_D (fun z => (hf _ z).1)).mp (y_ift z)).2 hD, fun _ => ?_⟩
    refine w280_26 xs (d + 2) _ _ _ _ m _ ⟨fun z => absurd z (by decide), fun _ => ?_⟩
    rw [show nI p + (2 : Int32) = nI (p + 2) from nI_add p 2]
    exact w280_40 xs (d + 2) _ _ _ _ m _ lp
  · generalize rn f (isDg 10) (n - (p + 2)) (p + 2) = E at *
    generalize dv f 10 (n - (p + 2)) (p + 2) 0 = V at *
    generalize rvd f 10 (n - (p + 2)) (p + 2) 0 = w at *
    have nd : ¬ (E < n ∧ isDN (f E)) := fun z => by
      have e := hend (by omega)
      have e2 := (dN_D _ (hf E z.1).1).mp z.2
      simp at e
      omega
    have g83 := rc_gr (f := f) (n := n) (i := E) (k := 83) (by decide) (by decide) (fun z => (hf _ z).1)
    have g77 := rc_gr (f := f) (n := n) (i := E) (k := 77) (by decide) (by decide) (fun z => (hf _ z).1)
    have g72 := rc_gr (f := f) (n := n) (i := E) (k := 72) (by decide) (by decide) (fun z => (hf _ z).1)
    have gs := rc_gr (f := f) (n := n) (i := E + 1) (k := 83) (by decide) (by decide) (fun z => (hf _ z).1)
    -- from the factor on: F, and whether it is thousandths
    have tail : ∀ (F : Nat) (th : Int32) (e : Nat), F ≤ 3600000 → (th = 0 ∧ e = E + 1 ∨ th = 1 ∧ e = E + 2) → (1 ≤ F → ¬ E = p + 2 → timT f n p E V = finN f n e (V * F)) → (F = 0 ∨ E = p + 2 → timT f n p E V = (5, 4, 0)) → yP (xg xs) (d + 2 + 1) 280 169 [(0, .ref 58), (1, .int (nI E)), (2, .long (lN w)), (6, .int (nI (p + 2))), (8, .int th)] [.long (lN F)] m (rR m p (timT f n p E V)) := by
      intro F th e hF hth ht hb
      have hm : w * F ≤ 274877906944 * 3600000 := Nat.mul_le_mul hR.1 hF
      have end_ : ∀ gd : Int32, (gd = 1 ∧ 1 ≤ F ∧ ¬ E = p + 2 ∨ gd = 0 ∧ (F = 0 ∨ E = p + 2)) → yP (xg xs) (d + 2 + 1) 280 189 [(0, .ref 58), (1, .int (nI E)), (2, .long (lN w)), (8, .int th), (9, .long (lN F))] [.int gd] m (rR m p (timT f n p E V)) := by
        intro gd hg
        have k323 : yP (xg xs) (d + 2 + 1) 280 323 [(0, .ref 58), (1, .int (nI e)), (2, .long (lN (w * F))), (4, .int gd)] [] m (rR m p (timT f n p E V)) := by
          rcases hg with ⟨rfl, g1, g2⟩ | ⟨rfl, g1⟩
          · rw [ht g1 g2]
            refine c280fin xs d m h p h5 hf0 e _ _ (by omega) (by omega) ?_
            have k1 : w ≤ w * F := Nat.le_mul_of_pos_right w (by omega)
            have k2 : V ≤ V * F := Nat.le_mul_of_pos_right V (by omega)
            rcases hR.big with z | z
            · left; rw [z]
            · right; omega
          · exact c280bad xs d m p h5 hf0 _ _ _ (hb g1)
        refine w280_189 xs (d + 2) _ _ _ _ _ m _ ⟨fun z => ?_, fun z => ?_⟩
        · rcases hth with ⟨-, rfl⟩ | ⟨rfl, -⟩
          · rw [lN_mul, nI_1]
            exact w280_210 xs (d + 2) _ _ _ m _ k323
          · exact absurd z (by decide)
        · rcases hth with ⟨rfl, -⟩ | ⟨-, rfl⟩
          · exact absurd rfl z
          · rw [lN_mul, show nI E + (2 : Int32) = nI (E + 2) from nI_add E 2]
            exact w280_210 xs (d + 2) _ _ _ m _ k323
      refine w280_169 xs (d + 2) _ _ _ _ _ m _ ⟨fun z => ?_, fun z => ⟨fun y => ?_, fun y => ?_⟩⟩
      · refine w280_188 xs (d + 2) _ _ _ _ m _ (end_ 0 (Or.inr ⟨rfl, Or.inr ?_⟩))
        have := (nI_leI (by omega) (by omega)).mp z
        omega
      · refine w280_188 xs (d + 2) _ _ _ _ m _ (end_ 0 (Or.inr ⟨rfl, Or.inl ?_⟩))
        have := (pk_lLE (b := 0) (by omega) (by decide)).mp ((lg_cmp_le _ _).mp y)
        omega
      · refine end_ 1 (Or.inl ⟨rfl, ?_, fun q => z (by rw [q]; exact Int32.le_refl _)⟩)
        have : ¬ F ≤ 0 := fun q => y ((lg_cmp_le _ _).mpr ((pk_lLE (b := 0) (by omega) (by decide)).mpr q))
        omega
    have far : ¬ ((E < n ∧ gN (f E) = 77) ∧ (E + 1 < n ∧ gN (f (E + 1)) = 83)) → yP (xg xs) (d + 2 + 1) 280 117 [(0, .ref 58), (1, .int (nI E)), (2, .long (lN w)), (6, .int (nI (p + 2))), (7, .int (gr_ (rc f n E)))] [] m (rR m p (timT f n p E V)) := by
      intro g
      have t0 : ¬ E = p + 2 → timT f n p E V = if E < n ∧ gN (f E) = 83 then finN f n (E + 1) (V * 1000) else if E < n ∧ gN (f E) = 77 then finN f n (E + 1) (V * 60000) else if E < n ∧ gN (f E) = 72 then finN f n (E + 1) (V * 3600000) else (5, 4, 0) := by
        intro hne
        unfold timT
        rw [if_neg hne, if_neg g]
      have tb : E = p + 2 → timT f n p E V = (5, 4, 0) := fun z => by unfold timT; rw [if_pos z]
      refine w280_117 xs (d + 2) _ _ _ _ m _ ?_
      refine w280_118 xs (d + 2) _ _ _ _ _ m _ ⟨fun _ => ⟨fun y => ⟨fun x => ⟨fun u => ?_, fun u => ?_⟩, fun x => ?_⟩, fun y => ?_⟩, fun z => absurd rfl z⟩
      · refine tail 0 0 (E + 1) (by decide) (Or.inl ⟨rfl, rfl⟩) (fun q => absurd q (by decide)) (fun _ => ?_)
        by_cases hne : E = p + 2
        · exact tb hne
        · rw [t0 hne, if_neg (fun q => y (g83.mpr q)), if_neg (fun q => x (g77.mpr q)), if_neg (fun q => u (g72.mpr q))]
      · refine tail 3600000 0 (E + 1) (by decide) (Or.inl ⟨rfl, rfl⟩) (fun _ hne => ?_) (fun q => tb (by omega))
        rw [t0 hne, if_neg (fun q => y (g83.mpr q)), if_neg (fun q => x (g77.mpr q)), if_pos (g72.mp u)]
      · refine tail 60000 0 (E + 1) (by decide) (Or.inl ⟨rfl, rfl⟩) (fun _ hne => ?_) (fun q => tb (by omega))
        rw [t0 hne, if_neg (fun q => y (g83.mpr q)), if_pos (g77.mp x)]
      · refine tail 1000 0 (E + 1) (by decide) (Or.inl ⟨rfl, rfl⟩) (fun _ hne => ?_) (fun q => tb (by omega))
        rw [t0 hne, if_pos (g83.mp y)]
    refine w280_44 xs (d + 2) _ _ _ _ _ m _ ?_
    refine y_ci (c274x xs d m h E (by omega)) (by omega) ?_
    refine y_ci (c278 xs d m _) (by omega) ?_
    refine ⟨fun _ => ⟨fun z => absurd z (by decide), fun _ => ?_⟩, fun z => absurd ((rc_D (fun z => (hf _ z).1)).mp (y_ift z)) nd⟩
    refine y_ci (c274x xs d m h E (by omega)) (by omega) ?_
    refine y_ci (c279 xs d m _) (by omega) ?_
    refine ⟨fun y => far (fun q => y (g77.mpr q.1)), fun y => ?_⟩
    rw [nI_1]
    refine y_ci (c274x xs d m h (E + 1) (by omega)) (by omega) ?_
    refine y_ci (c279 xs d m _) (by omega) ?_
    refine ⟨fun x => far (fun q => x (gs.mpr q.2)), fun x => ?_⟩
    refine w280_118 xs (d + 2) _ _ _ _ _ m _ ⟨fun z => absurd z (by decide), fun _ => ?_⟩
    have gg := gs.mp x
    refine tail 1 1 (E + 2) (by decide) (Or.inr ⟨rfl, rfl⟩) (fun _ hne => ?_) (fun q => ?_)
    · unfold timT
      rw [if_neg hne, if_pos ⟨g77.mp y, gg⟩, Nat.mul_one]
    · unfold timT
      rw [if_pos (by omega)]
