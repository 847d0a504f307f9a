/-! THE REFERENCE'S RULES: a standard function -/
theorem upI_u (f : Nat → Int32) (n : Nat) (a b : Int32) : upI (upI f n a) n b = upI f n b := by
  funext i
  unfold upI
  split <;> rfl
theorem bcN_v (σ : RS) (n : Nat) (f t x : Int32) : bcN (setT (setV σ n f) n t) n x = bcN (setT σ n t) n x := by
  unfold bcN setV setK setT
  dsimp only
  rw [upI_u]
theorem RJ.e34 {J : JV} {D : Nat → Prop} {σ : RS} {m m' : yM} {n : Nat} (h : RJ J D σ m) (hn : n < J.2.2.1.length) (kn : kK J.2.2.1 n = 34) (ks : σ.2.2.1 n = 34) (jk : JK m m') (g : ∀ a i, 69 < a → a < 84 → m'.1 a i = m.1 a i) (g2 : ∀ a i, 83 < a → a < 89 → i ≠ J.2.2.2 n → m'.1 a i = m.1 a i) (g5 : ∀ i, i = 3 ∨ i = 23 ∨ i = 29 ∨ i = 30 → m'.1 58 i = m.1 58 i) {f t : Int32} (e84 : m'.1 84 (J.2.2.2 n) = t) (e87 : m'.1 87 (J.2.2.2 n) = 0) (e85 : fnR f (m'.1 85 (J.2.2.2 n))) : RJ J (fun i => D i ∨ i = n) (setT (setV σ n f) n t) m' := by
  refine RJ.ex h hn (by omega) jk g g2 g5 ⟨_, _, _, setVT_u σ n f t, fun z => by omega⟩ ?_
  have nc : ¬ cnP (setT (setV σ n f) n t) n := by
    unfold cnP setT setV
    dsimp only
    rw [ks]
    decide
  refine ⟨fun _ => ⟨?_, ?_, fun z => absurd z nc⟩, fun z => by omega, fun z => by omega, fun _ _ => ?_⟩
  · rw [e84]; exact (upI_n _ _ _).symm
  · rw [e87, if_neg nc]
  · have : (setT (setV σ n f) n t).2.2.2.1 n = f := upI_n _ _ _
    rw [this]; exact e85
/-- what is known of an operand -/
def opK (J : JV) (σ : RS) (m : yM) (n i : Nat) : Prop := i < J.2.2.1.length ∧ ¬ J.2.2.2 i = J.2.2.2 n ∧ m.1 84 (J.2.2.2 i) = σ.2.2.2.2 i ∧ m.1 87 (J.2.2.2 i) = (if cnP σ i then 1 else 0) ∧ (cnP σ i → m.1 88 (J.2.2.2 i) = σ.2.2.2.1 i) ∧ ty3 (σ.2.2.2.2 i)
theorem opK.fr {J : JV} {σ : RS} {m m' : yM} {n i : Nat} (h : opK J σ m n i) (g : ∀ a j, 83 < a → a < 89 → j ≠ J.2.2.2 n → m'.1 a j = m.1 a j) : opK J σ m' n i := by
  obtain ⟨h1, h2, h3, h4, h5, h6⟩ := h
  exact ⟨h1, h2, by rw [g 84 _ (by omega) (by omega) h2]; exact h3, by rw [g 87 _ (by omega) (by omega) h2]; exact h4, fun z => by rw [g 88 _ (by omega) (by omega) h2]; exact h5 z, h6⟩
def bdS (s : Nat) (t1 t2 t3 : Int32) : Bool := if s = 4 then decide (¬ (t1 = 0 ∧ ((t2 = 0 ∧ t3 = 0) ∨ (0 < t2 ∧ 0 < t3)))) else if s = 7 ∨ s = 8 then false else decide (¬ (0 < t1 ∧ 0 < t2 ∧ 0 < t3))
def tyS (s : Nat) (t1 t2 t3 : Int32) : Int32 := if s = 4 then (if t2 = 0 then 0 else wdr t2 t3) else if s = 5 ∨ s = 6 then t1 else if s = 7 then 1 else if s = 8 then 2 else if s = 9 then 0 else wdr (wdr t1 t2) t3
def resS (σ : RS) (n s k1 k2 k3 : Nat) : RS ⊕ Int32 := if bdS s (σ.2.2.2.2 k1) (σ.2.2.2.2 k2) (σ.2.2.2.2 k3) = true then .inr 26 else if cnP σ k1 ∧ cnP σ k2 ∧ cnP σ k3 then .inl (bcN (setT σ n (tyS s (σ.2.2.2.2 k1) (σ.2.2.2.2 k2) (σ.2.2.2.2 k3))) n (cl3 (nI s) (σ.2.2.2.2 k1) (σ.2.2.2.1 k1) (σ.2.2.2.1 k2) (σ.2.2.2.1 k3))) else .inl (setT (setV σ n (nI s)) n (tyS s (σ.2.2.2.2 k1) (σ.2.2.2.2 k2) (σ.2.2.2.2 k3)))
theorem nI_n {s k : Nat} (hs : s < 10) (hk : k < 1000) : nI s = nI k ↔ s = k := nI_eq (by omega) (by omega)
/-- behind the types -/
theorem c357u (xs : List Int32) (d : Nat) {J : JV} {D : Nat → Prop} {σ : RS} {m m2 : yM} (h : RJ J D σ m) {n : Nat} (hn : n < J.2.2.1.length) (kn : kK J.2.2.1 n = 34) (ks : σ.2.2.1 n = 34) {s : Nat} (hs : s < 10) (hm2 : m2 = y_si m 85 (J.2.2.2 n) (nI s)) {k1 k2 k3 : Nat} (o1 : opK J σ m n k1) (o2 : opK J σ m n k2) (o3 : opK J σ m n k3) (b : Bool) (hb : b = bdS s (σ.2.2.2.2 k1) (σ.2.2.2.2 k2) (σ.2.2.2.2 k3)) (T : Int32) (hT' : T = tyS s (σ.2.2.2.2 k1) (σ.2.2.2.2 k2) (σ.2.2.2.2 k3)) : yP (xg xs) (d + 4) 357 583 [(0, .ref 58), (1, .int (nI (J.2.2.2 n))), (2, .int (nI s)), (4, .int (nI (J.2.2.2 k1))), (5, .int (nI (J.2.2.2 k2))), (6, .int (nI (J.2.2.2 k3)))] [.int T, .int (nI (J.2.2.2 n)), .ref 84] (flb J m2 26 n b) (JQ J (fun i => D i ∨ i = n) m n (resS σ n s k1 k2 k3)) := by
  have hT := h.1
  have hR := h.2.1
  have ei := hT.c hn
  have xi := hT.x hn
  have x1 := hT.x o1.1
  have x2 := hT.x o2.1
  have x3 := hT.x o3.1
  have c1 := hT.c o1.1
  have c2 := hT.c o2.1
  have c3 := hT.c o3.1
  have jk2 : JK m m2 := by rw [hm2]; exact (JK.re m).si (by omega)
  have jkb : JK m (flb J m2 26 n b) := jk2.fb J 26 n b
  have gb : ∀ a j, 83 < a → a < 89 → j ≠ J.2.2.2 n → (flb J m2 26 n b).1 a j = m.1 a j := fun a j z1 z2 z3 => by rw [flb_at _ _ _ _ _ _ _ (by omega), hm2, y_si_at, if_neg (fun z => z3 z.2)]
  have p1 := o1.fr gb
  have p2 := o2.fr gb
  have p3 := o3.fr gb
  unfold resS
  rw [← hb, ← hT']
  -- the end
  have fin : ∀ (c x : Int32) (R : RS ⊕ Int32), (c = 0 ∨ c = 1) → (b = false → ∃ σ', R = .inl σ' ∧ RJ J (fun i => D i ∨ i = n) σ' (fxM J m2 n T c x)) → yP (xg xs) (d + 4) 357 666 [] [.int x, .int c, .int (nI (J.2.2.2 n)), .ref 58] (y_si (flb J m2 26 n b) 84 (J.2.2.2 n) T) (JQ J (fun i => D i ∨ i = n) m n (if b = true then .inr 26 else R)) := by
    intro c x R hc hRR
    refine w357_666 xs (d + 3) _ _ _ _ _ (y_cv (c355 xs (d + 2) (hT.k (jkb.si (by omega))) hn hc _) (by omega) ?_)
    cases b
    · obtain ⟨σ', rfl, r⟩ := hRR rfl
      exact ⟨rfl, jk2.fx J n T c x, r⟩
    · have fe := FE.mk J m2 (show (0 : Int32) < 26 by decide) n
      refine ⟨rfl, (jk2.fl J 26 n).fx J n T c x, ?_, fe.2.1, ?_⟩
      · exact (fxM_at J (flM2 J m2 26 n) n T c x 58 3).trans (by rw [if_neg (by omega), if_neg (by omega), if_neg (by omega)]; exact fe.1)
      · exact (fxM_at J (flM2 J m2 26 n) n T c x 58 4).trans (by rw [if_neg (by omega), if_neg (by omega), if_neg (by omega)]; exact fe.2.2)
  have gm : ∀ a j, 83 < a → a < 89 → j ≠ J.2.2.2 n → (y_si (flb J m2 26 n b) 84 (J.2.2.2 n) T).1 a j = (flb J m2 26 n b).1 a j := fun a j z1 z2 z3 => by rw [y_si_at, if_neg (fun z => z3 z.2)]
  have r1 := p1.fr gm
  have r2 := p2.fr gm
  have r3 := p3.fr gm
  have no : ¬ (cnP σ k1 ∧ cnP σ k2 ∧ cnP σ k3) → yP (xg xs) (d + 4) 357 618 [(0, .ref 58), (1, .int (nI (J.2.2.2 n))), (2, .int (nI s)), (4, .int (nI (J.2.2.2 k1))), (5, .int (nI (J.2.2.2 k2))), (6, .int (nI (J.2.2.2 k3)))] [] (y_si (flb J m2 26 n b) 84 (J.2.2.2 n) T) (JQ J (fun i => D i ∨ i = n) m n (if b = true then .inr 26 else if cnP σ k1 ∧ cnP σ k2 ∧ cnP σ k3 then .inl (bcN (setT σ n T) n (cl3 (nI s) (σ.2.2.2.2 k1) (σ.2.2.2.1 k1) (σ.2.2.2.1 k2) (σ.2.2.2.1 k3))) else .inl (setT (setV σ n (nI s)) n T))) := by
    intro q
    rw [if_neg q]
    refine w357_618 xs (d + 3) _ _ _ _ _ _ _ (w357_619 xs (d + 3) _ _ _ _ _ _ _ _ ⟨fun _ => fin 0 _ _ (Or.inl rfl) (fun _ => ⟨_, rfl, ?_⟩), fun z => absurd rfl z⟩)
    refine RJ.e34 h hn kn ks (jk2.fx J n T 0 _) (fun a i z1 z2 => ?_) (fun a i z1 z2 z3 => ?_) (fun i hi => ?_) ?_ ?_ ⟨s, rfl, by omega, ?_⟩
    · rw [fxM_at, if_neg (by omega), if_neg (by omega), if_neg (by omega), hm2, y_si_at, if_neg (by omega)]
    · rw [fxM_at, if_neg (fun z => z3 z.2), if_neg (fun z => z3 z.2), if_neg (fun z => z3 z.2), hm2, y_si_at, if_neg (fun z => z3 z.2)]
    · rw [fxM_at, if_neg (by omega), if_neg (by omega), if_neg (by omega), hm2, y_si_at, if_neg (by omega)]
    · rw [fxM_at, if_neg (by omega), if_neg (by omega), if_pos ⟨rfl, rfl⟩]
    · rw [fxM_at, if_neg (by omega), if_pos ⟨rfl, rfl⟩]
    · rw [fxM_at, if_neg (by omega), if_neg (by omega), if_neg (by omega), hm2, y_si_same, if_pos hs]
  have pz : ∀ {p : Prop} [Decidable p], ¬ (if p then (1 : Int32) else 0) = 0 → p := fun {p} _ z => by
    by_cases w : p
    · exact w
    · rw [if_neg w] at z; exact absurd rfl z
  have pn : ∀ {p : Prop} [Decidable p], (if p then (1 : Int32) else 0) = 0 → ¬ p := fun {p} _ z w => by rw [if_pos w] at z; exact absurd z (by decide)
  refine w357_583 xs (d + 3) _ _ _ _ _ _ _ _ _ ⟨xi, x1, ?_⟩
  rw [ei, c1, c2, c3, p1.2.2.2.1, p2.2.2.2.1, p3.2.2.2.1]
  refine ⟨fun z => no (fun w => pn z w.1), fun z => ⟨x2, fun z2 => no (fun w => pn z2 w.2.1), fun z2 => ⟨x3, fun z3 => no (fun w => pn z3 w.2.2), fun z3 => ?_⟩⟩⟩
  have q1 := pz z
  have q2 := pz z2
  have q3 := pz z3
  rw [if_pos (show cnP σ k1 ∧ cnP σ k2 ∧ cnP σ k3 from ⟨q1, q2, q3⟩)]
  refine w357_619 xs (d + 3) _ _ _ _ _ _ _ _ ⟨fun z => absurd z (by decide), fun _ => ⟨x1, x1, x2, x3, ?_⟩⟩
  rw [c1, c2, c3, r1.2.2.1, r1.2.2.2.2.1 q1, r2.2.2.2.2.1 q2, r3.2.2.2.2.1 q3]
  refine y_ci (c360 xs (d + 1) _ hs _ _ _ _) (by omega) (fin 1 _ _ (Or.inr rfl) (fun _ => ⟨_, rfl, ?_⟩))
  exact RJ.e1 h hn (by omega) (fun a i z => by rw [hm2, y_si_at, if_neg z]) (by rw [hm2]; rfl) _ _
/-- from the operands on -/
theorem c357t (xs : List Int32) (d : Nat) {J : JV} {D : Nat → Prop} {σ : RS} {m m2 : yM} (h : RJ J D σ m) {n : Nat} (hn : n < J.2.2.1.length) (kn : kK J.2.2.1 n = 34) (ks : σ.2.2.1 n = 34) {s : Nat} (hs : s < 10) (hm2 : m2 = y_si m 85 (J.2.2.2 n) (nI s)) {k1 k2 k3 : Nat} (o1 : opK J σ m n k1) (o2 : opK J σ m n k2) (o3 : opK J σ m n k3) : yP (xg xs) (d + 4) 357 314 [(0, .ref 58), (1, .int (nI (J.2.2.2 n))), (2, .int (nI s)), (4, .int (nI (J.2.2.2 k1))), (5, .int (nI (J.2.2.2 k2)))] [.int (nI (J.2.2.2 k3))] m2 (JQ J (fun i => D i ∨ i = n) m n (resS σ n s k1 k2 k3)) := by
  have hT := h.1
  have ei := hT.c hn
  have xi := hT.x hn
  have x1 := hT.x o1.1
  have x2 := hT.x o2.1
  have x3 := hT.x o3.1
  have c1 := hT.c o1.1
  have c2 := hT.c o2.1
  have c3 := hT.c o3.1
  have jk2 : JK m m2 := by rw [hm2]; exact (JK.re m).si (by omega)
  have hT2 := hT.k jk2
  have f2 : m2.1 58 3 = 0 := by rw [hm2, y_si_at, if_neg (by omega)]; exact h.2.1.f0
  have tail := fun (b : Bool) hb (T : Int32) hT' => c357u xs d h hn kn ks hs hm2 o1 o2 o3 b hb T hT'
  generalize hB : bdS s (σ.2.2.2.2 k1) (σ.2.2.2.2 k2) (σ.2.2.2.2 k3) = B at tail
  have tail := tail B rfl
  have gb : ∀ a j, 83 < a → a < 89 → j ≠ J.2.2.2 n → (flb J m2 26 n B).1 a j = m.1 a j := fun a j z1 z2 z3 => by rw [flb_at _ _ _ _ _ _ _ (by omega), hm2, y_si_at, if_neg (fun z => z3 z.2)]
  have p1 := o1.fr gb
  have p2 := o2.fr gb
  have p3 := o3.fr gb
  have g2 : ∀ a j, 83 < a → a < 89 → j ≠ J.2.2.2 n → m2.1 a j = m.1 a j := fun a j z1 z2 z3 => by rw [hm2, y_si_at, if_neg (fun z => z3 z.2)]
  have t1 := (o1.fr g2).2.2.1
  have t2 := (o2.fr g2).2.2.1
  have t3 := (o3.fr g2).2.2.1
  have u1 := p1.2.2.1
  have u2 := p2.2.2.1
  have u3 := p3.2.2.1
  generalize σ.2.2.2.2 k1 = a1 at t1 u1 hB tail
  generalize σ.2.2.2.2 k2 = a2 at t2 u2 hB tail
  generalize σ.2.2.2.2 k3 = a3 at t3 u3 hB tail
  have iff : ∀ k, k < 1000 → (nI s = nI k ↔ s = k) := fun k hk => nI_n hs hk
  -- the type
  have s457 : ∀ u : Int32, u = (if B = true then 1 else 0) → yP (xg xs) (d + 4) 357 457 [(0, .ref 58), (1, .int (nI (J.2.2.2 n))), (2, .int (nI s)), (4, .int (nI (J.2.2.2 k1))), (5, .int (nI (J.2.2.2 k2))), (6, .int (nI (J.2.2.2 k3)))] [.int u, .int (26 : Int32), .ref 58] m2 (JQ J (fun i => D i ∨ i = n) m n (resS σ n s k1 k2 k3)) := by
    intro u hu
    refine w357_457 xs (d + 3) _ _ _ _ _ _ _ m2 _ (rlb (by omega) (by decide) hT2 hn f2 false B hu ?_)
    rw [Bool.false_or, c1, c2, c3, u1, u2, u3]
    unfold tyS at tail
    refine ⟨fun n4 => ⟨fun e5 => w357_516 xs (d + 3) _ _ _ _ _ _ _ _ ⟨x1, ?_⟩, fun n5 => ⟨fun n6 => ⟨fun n7 => ⟨fun n8 => ⟨fun n9 => ⟨x1, x2, ?_⟩, fun e9 => tail _ ?_⟩, fun e8 => tail _ ?_⟩, fun e7 => tail _ ?_⟩, fun e6 => w357_516 xs (d + 3) _ _ _ _ _ _ _ _ ⟨x1, ?_⟩⟩⟩, fun e4 => ⟨x2, fun z => ⟨x2, x3, ?_⟩, fun z => tail _ ?_⟩⟩
    · have := (iff 5 (by omega)).mp e5
      rw [c1, u1]
      exact tail _ (by rw [if_neg (by omega), if_pos (by omega)])
    · have a4 : ¬ s = 4 := fun z => n4 ((iff 4 (by omega)).mpr z)
      have a5 : ¬ s = 5 := fun z => n5 ((iff 5 (by omega)).mpr z)
      have a6 : ¬ s = 6 := fun z => n6 ((iff 6 (by omega)).mpr z)
      have a7 : ¬ s = 7 := fun z => n7 ((iff 7 (by omega)).mpr z)
      have a8 : ¬ s = 8 := fun z => n8 ((iff 8 (by omega)).mpr z)
      have a9 : ¬ s = 9 := fun z => n9 ((iff 9 (by omega)).mpr z)
      refine y_ci (c359 xs (d + 2) _ _ _) (by omega) ⟨x3, ?_⟩
      rw [u3]
      refine y_ci (c359 xs (d + 2) _ _ _) (by omega) (tail _ ?_)
      rw [if_neg a4, if_neg (by omega), if_neg a7, if_neg a8, if_neg a9]
    · have := (iff 9 (by omega)).mp e9
      rw [if_neg (by omega), if_neg (by omega), if_neg (by omega), if_neg (by omega), if_pos this]
    · have := (iff 8 (by omega)).mp e8
      rw [if_neg (by omega), if_neg (by omega), if_neg (by omega), if_pos this]
    · have := (iff 7 (by omega)).mp e7
      rw [if_neg (by omega), if_neg (by omega), if_pos this]
    · have := (iff 6 (by omega)).mp e6
      rw [c1, u1]
      exact tail _ (by rw [if_neg (by omega), if_pos (by omega)])
    · have := (iff 4 (by omega)).mp e4
      refine y_ci (c359 xs (d + 2) _ _ _) (by omega) (tail _ ?_)
      rw [if_pos this, if_neg z]
    · have := (iff 4 (by omega)).mp e4
      rw [if_pos this, if_pos z]
  -- the rule
  have s443 : ¬ s = 4 → ¬ (s = 7 ∨ s = 8) → ∀ l7 : Int32, (l7 = 0 ↔ ¬ (0 < a1 ∧ 0 < a2 ∧ 0 < a3)) → yP (xg xs) (d + 4) 357 443 [(0, .ref 58), (1, .int (nI (J.2.2.2 n))), (2, .int (nI s)), (4, .int (nI (J.2.2.2 k1))), (5, .int (nI (J.2.2.2 k2))), (6, .int (nI (J.2.2.2 k3))), (7, .int l7)] [.int (26 : Int32), .ref 58] m2 (JQ J (fun i => D i ∨ i = n) m n (resS σ n s k1 k2 k3)) := by
    intro n4 n78 l7 h7
    unfold bdS at hB
    rw [if_neg n4, if_neg n78] at hB
    refine w357_443 xs (d + 3) _ _ _ _ _ _ _ m2 _ ⟨fun z => s457 0 ?_, fun z => s457 1 ?_⟩
    · rw [← hB, decide_eq_false (fun w => z (h7.mpr w))]; rfl
    · rw [← hB, decide_eq_true (h7.mp z)]; rfl
  have s398 : ∀ (l7 u : Int32), (l7 = 0 ↔ ¬ (0 < a1 ∧ 0 < a2 ∧ 0 < a3)) → (u = 0 ↔ ¬ ((a2 = 0 ∧ a3 = 0) ∨ (0 < a2 ∧ 0 < a3))) → yP (xg xs) (d + 4) 357 398 [(0, .ref 58), (1, .int (nI (J.2.2.2 n))), (2, .int (nI s)), (4, .int (nI (J.2.2.2 k1))), (5, .int (nI (J.2.2.2 k2))), (6, .int (nI (J.2.2.2 k3))), (7, .int l7)] [.int u] m2 (JQ J (fun i => D i ∨ i = n) m n (resS σ n s k1 k2 k3)) := by
    intro l7 u h7 hu
    refine w357_398 xs (d + 3) _ _ _ _ _ _ _ m2 _ ⟨fun n4 => ?_, fun e4 => ⟨x1, ?_⟩⟩
    · have a4 : ¬ s = 4 := fun z => n4 ((iff 4 (by omega)).mpr z)
      refine ⟨fun z => s443 a4 ?_ l7 h7, fun z => ⟨fun n9 => s457 0 ?_, fun e9 => s443 a4 ?_ l7 h7⟩⟩
      · have := (nI_ltI (b := 7) (by omega) (by omega)).mp z
        omega
      · have a9 : ¬ s = 9 := fun w => n9 ((iff 9 (by omega)).mpr w)
        have : ¬ s < 7 := fun w => z (nI_lt (b := 7) w (by omega))
        unfold bdS at hB
        rw [if_neg a4, if_pos (by omega)] at hB
        rw [← hB]; rfl
      · have := (iff 9 (by omega)).mp e9
        omega
    · have a4 := (iff 4 (by omega)).mp e4
      unfold bdS at hB
      rw [if_pos a4] at hB
      rw [c1, t1]
      refine ⟨fun z => w357_423 xs (d + 3) _ _ _ _ _ _ m2 _ (s457 1 ?_), fun z => ⟨fun w => s457 0 ?_, fun w => w357_423 xs (d + 3) _ _ _ _ _ _ m2 _ (s457 1 ?_)⟩⟩
      · have w1 : ¬ (a1 = 0 ∧ ((a2 = 0 ∧ a3 = 0) ∨ (0 < a2 ∧ 0 < a3))) := fun w => z w.1
        rw [← hB, decide_eq_true w1]; rfl
      · rw [← hB, decide_eq_false]; rfl
        exact fun y => y ⟨z, Decidable.byContradiction (fun v => w (hu.mpr v))⟩
      · have w1 : ¬ (a1 = 0 ∧ ((a2 = 0 ∧ a3 = 0) ∨ (0 < a2 ∧ 0 < a3))) := fun v => hu.mp w v.2
        rw [← hB, decide_eq_true w1]; rfl
  have s351 : ∀ l7 : Int32, (l7 = 0 ↔ ¬ (0 < a1 ∧ 0 < a2 ∧ 0 < a3)) → yP (xg xs) (d + 4) 357 351 [(0, .ref 58), (1, .int (nI (J.2.2.2 n))), (2, .int (nI s)), (4, .int (nI (J.2.2.2 k1))), (5, .int (nI (J.2.2.2 k2))), (6, .int (nI (J.2.2.2 k3)))] [.int l7] m2 (JQ J (fun i => D i ∨ i = n) m n (resS σ n s k1 k2 k3)) := by
    intro l7 h7
    have yes : ((a2 = 0 ∧ a3 = 0) ∨ (0 < a2 ∧ 0 < a3)) → yP (xg xs) (d + 4) 357 393 [(0, .ref 58), (1, .int (nI (J.2.2.2 n))), (2, .int (nI s)), (4, .int (nI (J.2.2.2 k1))), (5, .int (nI (J.2.2.2 k2))), (6, .int (nI (J.2.2.2 k3))), (7, .int l7)] [] m2 (JQ J (fun i => D i ∨ i = n) m n (resS σ n s k1 k2 k3)) := fun y => w357_393 xs (d + 3) _ _ _ _ _ _ m2 _ (s398 l7 1 h7 ⟨fun z => absurd z (by decide), fun z => absurd y z⟩)
    have s373 : ¬ (a2 = 0 ∧ a3 = 0) → yP (xg xs) (d + 4) 357 373 [(0, .ref 58), (1, .int (nI (J.2.2.2 n))), (2, .int (nI s)), (4, .int (nI (J.2.2.2 k1))), (5, .int (nI (J.2.2.2 k2))), (6, .int (nI (J.2.2.2 k3))), (7, .int l7)] [] m2 (JQ J (fun i => D i ∨ i = n) m n (resS σ n s k1 k2 k3)) := by
      intro nz
      have no : ¬ (0 < a2 ∧ 0 < a3) → yP (xg xs) (d + 4) 357 397 [(0, .ref 58), (1, .int (nI (J.2.2.2 n))), (2, .int (nI s)), (4, .int (nI (J.2.2.2 k1))), (5, .int (nI (J.2.2.2 k2))), (6, .int (nI (J.2.2.2 k3))), (7, .int l7)] [] m2 (JQ J (fun i => D i ∨ i = n) m n (resS σ n s k1 k2 k3)) := fun y => w357_397 xs (d + 3) _ _ _ _ _ _ m2 _ (s398 l7 0 h7 ⟨fun _ z => z.elim nz y, fun _ => rfl⟩)
      refine w357_373 xs (d + 3) _ _ _ _ _ _ m2 _ ⟨x2, ?_⟩
      rw [c2, c3, t2, t3]
      exact ⟨fun z => no (fun w => Int32.not_lt.mpr z w.1), fun z => ⟨x3, fun z2 => no (fun w => Int32.not_lt.mpr z2 w.2), fun z2 => yes (Or.inr ⟨Int32.not_le.mp z, Int32.not_le.mp z2⟩)⟩⟩
    refine w357_351 xs (d + 3) _ _ _ _ _ _ m2 _ ⟨x2, ?_⟩
    rw [c2, c3, t2, t3]
    exact ⟨fun z => s373 (fun w => z w.1), fun z => ⟨x3, fun z2 => yes (Or.inl ⟨z, z2⟩), fun z2 => s373 (fun w => z2 w.2)⟩⟩
  refine w357_314 xs (d + 3) _ _ _ _ _ m2 _ ⟨x1, ?_⟩
  rw [c1, c2, c3, t1, t2, t3]
  have no : ¬ (0 < a1 ∧ 0 < a2 ∧ 0 < a3) → yP (xg xs) (d + 4) 357 350 [(0, .ref 58), (1, .int (nI (J.2.2.2 n))), (2, .int (nI s)), (4, .int (nI (J.2.2.2 k1))), (5, .int (nI (J.2.2.2 k2))), (6, .int (nI (J.2.2.2 k3)))] [] m2 (JQ J (fun i => D i ∨ i = n) m n (resS σ n s k1 k2 k3)) := fun y => w357_350 xs (d + 3) _ _ _ _ _ m2 _ (s351 0 ⟨fun _ => y, fun _ => rfl⟩)
  exact ⟨fun z => no (fun w => Int32.not_lt.mpr z w.1), fun z => ⟨x2, fun z2 => no (fun w => Int32.not_lt.mpr z2 w.2.1), fun z2 => ⟨x3, fun z3 => no (fun w => Int32.not_lt.mpr z3 w.2.2), fun z3 => s351 1 ⟨fun w => absurd w (by decide), fun w => absurd ⟨Int32.not_le.mp z, Int32.not_le.mp z2, Int32.not_le.mp z3⟩ w⟩⟩⟩⟩
