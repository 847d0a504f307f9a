/-! THE REFERENCE'S RULES: expressions -/
/-- what a look leaves at node n -/
def fxM (J : JV) (m : yM) (n : Nat) (t b x : Int32) : yM := y_si (y_si (y_si m 84 (J.2.2.2 n) t) 87 (J.2.2.2 n) b) 88 (J.2.2.2 n) x
theorem fxM_at (J : JV) (m : yM) (n : Nat) (t b x : Int32) (a i : Nat) : (fxM J m n t b x).1 a i = if a = 88 ∧ i = J.2.2.2 n then x else if a = 87 ∧ i = J.2.2.2 n then b else if a = 84 ∧ i = J.2.2.2 n then t else m.1 a i := by
  unfold fxM
  rw [y_si_at, y_si_at, y_si_at]
theorem JK.fx {m m' : yM} (J : JV) (h : JK m m') (n : Nat) (t b x : Int32) : JK m (fxM J m' n t b x) := ((h.si (by omega)).si (by omega)).si (by omega)
theorem c355 (xs : List Int32) (d : Nat) {J : JV} {m : yM} (hT : JT J m) {n : Nat} (hn : n < J.2.2.1.length) {b : Int32} (hb : b = 0 ∨ b = 1) (x : Int32) : yC (xg xs) (d + 1) 355 [.ref 58, .int (nI (J.2.2.2 n)), .int b, .int x] m (fun r m' => r = none ∧ m' = y_si (y_si m 87 (J.2.2.2 n) b) 88 (J.2.2.2 n) x) := by
  refine w355_0 xs d _ _ _ m _ ⟨hT.x hn, hT.x hn, rfl, ?_⟩
  rw [hT.c hn]
  rcases hb with rfl | rfl <;> rfl
theorem RJ.ex {J : JV} {D : Nat → Prop} {σ σ' : RS} {m m' : yM} {n : Nat} (h : RJ J D σ m) (hn : n < J.2.2.1.length) (hk : kK J.2.2.1 n = 6 ∨ 29 < kK J.2.2.1 n) (jk : JK m m') (g : ∀ a i, 69 < a → a < 84 → m'.1 a i = m.1 a i) (g2 : ∀ a i, 83 < a → a < 89 → i ≠ J.2.2.2 n → m'.1 a i = m.1 a i) (g5 : ∀ i, i = 3 ∨ i = 23 ∨ i = 29 ∨ i = 30 → m'.1 58 i = m.1 58 i) (hs : ∃ k v t, σ' = (σ.1, σ.2.1, upI σ.2.2.1 n k, upI σ.2.2.2.1 n v, upI σ.2.2.2.2 n t) ∧ (cnK (kK J.2.2.1 n) → v = σ.2.2.2.1 n)) (hnv : nvR J σ' m' n) : RJ J (fun i => D i ∨ i = n) σ' m' := by
  obtain ⟨k, v, t, rfl, hc⟩ := hs
  exact RJ.up h hn jk g g2 g5 rfl rfl (fun i hi => ⟨upI_o _ _ hi, upI_o _ _ hi, upI_o _ _ hi⟩) (by omega) (fun z => (upI_n _ _ _).trans (hc z)) hnv
theorem RJ.exp {J : JV} {D : Nat → Prop} {σ σ' : RS} {m m' : yM} {n : Nat} (h : RJ J D σ m) (hn : n < J.2.2.1.length) (hk : kK J.2.2.1 n = 6 ∨ 29 < kK J.2.2.1 n) {p : Nat} (jk : JP p m m') (g : ∀ a i, 69 < a → a < 84 → m'.1 a i = m.1 a i) (g2 : ∀ a i, 83 < a → a < 89 → i ≠ J.2.2.2 n → m'.1 a i = m.1 a i) (g5 : ∀ i, i = 3 ∨ i = 23 ∨ i = 29 ∨ i = 30 → m'.1 58 i = m.1 58 i) (hs : ∃ k v t, σ' = (σ.1, σ.2.1, upI σ.2.2.1 n k, upI σ.2.2.2.1 n v, upI σ.2.2.2.2 n t) ∧ (cnK (kK J.2.2.1 n) → v = σ.2.2.2.1 n)) (hnv : nvR J σ' m' n) : RJ J (fun i => D i ∨ i = n) σ' m' := by
  obtain ⟨k, v, t, rfl, hc⟩ := hs
  exact RJ.upp h hn jk g g2 g5 rfl rfl (fun i hi => ⟨upI_o _ _ hi, upI_o _ _ hi, upI_o _ _ hi⟩) (by omega) (fun z => (upI_n _ _ _).trans (hc z)) hnv
theorem upI_s (f : Nat → Int32) (n : Nat) : upI f n (f n) = f := by
  funext i
  unfold upI
  split
  · rename_i e; rw [e]
  · rfl
theorem setT_u (σ : RS) (n : Nat) (t : Int32) : setT σ n t = (σ.1, σ.2.1, upI σ.2.2.1 n (σ.2.2.1 n), upI σ.2.2.2.1 n (σ.2.2.2.1 n), upI σ.2.2.2.2 n t) := by rw [upI_s, upI_s]; rfl
theorem setVT_u (σ : RS) (n : Nat) (v t : Int32) : setT (setV σ n v) n t = (σ.1, σ.2.1, upI σ.2.2.1 n (σ.2.2.1 n), upI σ.2.2.2.1 n v, upI σ.2.2.2.2 n t) := by rw [upI_s]; rfl
theorem bcN_u (σ : RS) (n : Nat) (t x : Int32) : bcN (setT σ n t) n x = (σ.1, σ.2.1, upI σ.2.2.1 n 30, upI σ.2.2.2.1 n x, upI σ.2.2.2.2 n t) := rfl
/-- a constant came out -/
theorem RJ.e1 {J : JV} {D : Nat → Prop} {σ : RS} {m : yM} {n : Nat} (h : RJ J D σ m) (hn : n < J.2.2.1.length) (hk : kK J.2.2.1 n = 34 ∨ kK J.2.2.1 n = 35 ∨ kK J.2.2.1 n = 36) {m0 : yM} (g : ∀ a i, ¬ (a = 85 ∧ i = J.2.2.2 n) → m0.1 a i = m.1 a i) (g' : m0.2 = m.2) (t x : Int32) : RJ J (fun i => D i ∨ i = n) (bcN (setT σ n t) n x) (fxM J m0 n t 1 x) := by
  have jk : JK m m0 := ⟨fun a i z1 z2 => g a i (by omega), fun i z => g 58 i (by omega), g'⟩
  refine RJ.ex h hn (by omega) (jk.fx J n t 1 x) (fun a i h1 h2 => ?_) (fun a i h1 h2 h3 => ?_) (fun i hi => ?_) ⟨30, x, t, bcN_u σ n t x, fun z => by omega⟩ ?_
  · rw [fxM_at, if_neg (by omega), if_neg (by omega), if_neg (by omega), g a i (by omega)]
  · rw [fxM_at, if_neg (fun z => h3 z.2), if_neg (fun z => h3 z.2), if_neg (fun z => h3 z.2), g a i (fun z => h3 z.2)]
  · rw [fxM_at, if_neg (by omega), if_neg (by omega), if_neg (by omega), g 58 i (by omega)]
  · have c : cnP (bcN (setT σ n t) n x) n := Or.inl (upI_n _ _ _)
    refine ⟨fun _ => ⟨?_, ?_, fun _ => ?_⟩, fun z => by omega, fun z => by omega, fun _ z => absurd c z⟩
    · rw [fxM_at, if_neg (by omega), if_neg (by omega), if_pos ⟨rfl, rfl⟩]; exact (upI_n _ _ _).symm
    · rw [fxM_at, if_neg (by omega), if_pos ⟨rfl, rfl⟩, if_pos c]
    · rw [fxM_at, if_pos ⟨rfl, rfl⟩]; exact (upI_n _ _ _).symm
/-- none -/
theorem RJ.e0 {J : JV} {D : Nat → Prop} {σ : RS} {m : yM} {n : Nat} (h : RJ J D σ m) (hn : n < J.2.2.1.length) (hk : kK J.2.2.1 n = 35 ∨ kK J.2.2.1 n = 36) (kn : σ.2.2.1 n = nI (kK J.2.2.1 n)) (t x : Int32) : RJ J (fun i => D i ∨ i = n) (setT σ n t) (fxM J m n t 0 x) := by
  refine RJ.ex h hn (by omega) ((JK.re m).fx J n t 0 x) (fun a i h1 h2 => ?_) (fun a i h1 h2 h3 => ?_) (fun i hi => ?_) ⟨_, _, _, setT_u σ n t, fun z => by omega⟩ ?_
  · rw [fxM_at, if_neg (by omega), if_neg (by omega), if_neg (by omega)]
  · rw [fxM_at, if_neg (fun z => h3 z.2), if_neg (fun z => h3 z.2), if_neg (fun z => h3 z.2)]
  · rw [fxM_at, if_neg (by omega), if_neg (by omega), if_neg (by omega)]
  · have c : ¬ cnP (setT σ n t) n := by
      unfold cnP setT
      dsimp only
      rw [kn]
      rcases hk with z | z <;> rw [z] <;> decide
    refine ⟨fun _ => ⟨?_, ?_, fun z => absurd z c⟩, fun z => by omega, fun z => by omega, fun z => by omega⟩
    · rw [fxM_at, if_neg (by omega), if_neg (by omega), if_pos ⟨rfl, rfl⟩]; exact (upI_n _ _ _).symm
    · rw [fxM_at, if_neg (by omega), if_pos ⟨rfl, rfl⟩, if_neg c]
/-- a number -/
theorem c354_30 (xs : List Int32) (d : Nat) {J : JV} {D : Nat → Prop} {σ : RS} {m : yM} (h : RJ J D σ m) {n : Nat} (hn : n < J.2.2.1.length) (kn : kK J.2.2.1 n = 30) (ks : σ.2.2.1 n = 30) (hvt : vtF J.2.2.1 n = 0) (hv : σ.2.2.2.1 n = vF J.2.2.1 n) : yC (xg xs) (d + 2) 354 [.ref 58, .int (nI (J.2.2.2 n)), .int 30] m (JQ J (fun i => D i ∨ i = n) m n (.inl (setT σ n (if 32767 < σ.2.2.2.1 n then 2 else 1)))) := by
  have hT := h.1
  have e64 := (hT.2.1 n hn).2.2.2.1 hvt
  have fin : ∀ t : Int32, yP (xg xs) (d + 2) 354 62 [(0, .ref 58), (1, .int (nI (J.2.2.2 n)))] [.int t, .int (nI (J.2.2.2 n)), .ref 84] m (JQ J (fun i => D i ∨ i = n) m n (.inl (setT σ n t))) := by
    intro t
    refine w354_62 xs (d + 1) _ _ _ m _ ⟨hT.x hn, hT.x hn, ?_⟩
    rw [hT.c hn, e64, ← hv]
    refine y_cv (c355 xs d (hT.k ((JK.re m).si (by omega))) hn (Or.inr rfl) _) (by omega) ⟨rfl, (JK.re m).fx J n t 1 _, ?_⟩
    refine RJ.ex h hn (by omega) ((JK.re m).fx J n t 1 _) (fun a i h1 h2 => ?_) (fun a i h1 h2 h3 => ?_) (fun i hi => ?_) ⟨_, _, _, setT_u σ n t, fun z => rfl⟩ ?_
    · exact (fxM_at J m n t 1 _ a i).trans (by rw [if_neg (by omega), if_neg (by omega), if_neg (by omega)])
    · exact (fxM_at J m n t 1 _ a i).trans (by rw [if_neg (fun z => h3 z.2), if_neg (fun z => h3 z.2), if_neg (fun z => h3 z.2)])
    · exact (fxM_at J m n t 1 _ 58 i).trans (by rw [if_neg (by omega), if_neg (by omega), if_neg (by omega)])
    · have c : cnP (setT σ n t) n := Or.inl ks
      refine ⟨fun _ => ⟨?_, ?_, fun _ => ?_⟩, fun z => by omega, fun z => by omega, fun z => by omega⟩
      · exact (fxM_at J m n t 1 _ 84 _).trans (by rw [if_neg (by omega), if_neg (by omega), if_pos ⟨rfl, rfl⟩]; exact (upI_n _ _ _).symm)
      · exact (fxM_at J m n t 1 _ 87 _).trans (by rw [if_neg (by omega), if_pos ⟨rfl, rfl⟩, if_pos c])
      · exact (fxM_at J m n t 1 _ 88 _).trans (by rw [if_pos ⟨rfl, rfl⟩]; rfl)
  refine w354_0 xs (d + 1) _ _ m _ ⟨fun _ => ⟨hT.x hn, ?_⟩, fun w => absurd w (by decide), fun w => absurd w (by decide), fun w => absurd w (by decide), fun w => absurd w (by decide), fun w => absurd w (by decide), fun w => absurd rfl w⟩
  rw [hT.c hn, e64, ← hv]
  refine ⟨fun w => ?_, fun w => ?_⟩
  · rw [if_neg (Int32.not_lt.mpr w)]; exact fin 1
  · rw [if_pos (Int32.not_le.mp w)]; exact fin 2
/-- FALSE or TRUE -/
theorem c354_31 (xs : List Int32) (d : Nat) {J : JV} {D : Nat → Prop} {σ : RS} {m : yM} (h : RJ J D σ m) {n : Nat} (hn : n < J.2.2.1.length) (kn : kK J.2.2.1 n = 31) (ks : σ.2.2.1 n = 31) (hvt : vtF J.2.2.1 n = 0) (hv : σ.2.2.2.1 n = vF J.2.2.1 n) (ht : σ.2.2.2.2 n = 0) : yC (xg xs) (d + 2) 354 [.ref 58, .int (nI (J.2.2.2 n)), .int 31] m (JQ J (fun i => D i ∨ i = n) m n (.inl σ)) := by
  have hT := h.1
  have e64 := (hT.2.1 n hn).2.2.2.1 hvt
  refine w354_0 xs (d + 1) _ _ m _ ⟨fun w => absurd w (by decide), fun _ => ⟨hT.x hn, hT.x hn, ?_⟩, fun w => absurd w (by decide), fun w => absurd w (by decide), fun w => absurd w (by decide), fun w => absurd w (by decide), fun _ w => absurd rfl w⟩
  rw [hT.c hn, e64, ← hv]
  refine y_cv (c355 xs d (hT.k ((JK.re m).si (by omega))) hn (Or.inr rfl) _) (by omega) ⟨rfl, (JK.re m).fx J n 0 1 _, ?_⟩
  refine RJ.ex h hn (by omega) ((JK.re m).fx J n 0 1 _) (fun a i h1 h2 => ?_) (fun a i h1 h2 h3 => ?_) (fun i hi => ?_) ⟨σ.2.2.1 n, σ.2.2.2.1 n, σ.2.2.2.2 n, by rw [upI_s, upI_s, upI_s], fun z => rfl⟩ ?_
  · exact (fxM_at J m n 0 1 _ a i).trans (by rw [if_neg (by omega), if_neg (by omega), if_neg (by omega)])
  · exact (fxM_at J m n 0 1 _ a i).trans (by rw [if_neg (fun z => h3 z.2), if_neg (fun z => h3 z.2), if_neg (fun z => h3 z.2)])
  · exact (fxM_at J m n 0 1 _ 58 i).trans (by rw [if_neg (by omega), if_neg (by omega), if_neg (by omega)])
  · have c : cnP σ n := Or.inr ks
    refine ⟨fun _ => ⟨?_, ?_, fun _ => ?_⟩, fun z => by omega, fun z => by omega, fun z => by omega⟩
    · exact (fxM_at J m n 0 1 _ 84 _).trans (by rw [if_neg (by omega), if_neg (by omega), if_pos ⟨rfl, rfl⟩]; exact ht.symm)
    · exact (fxM_at J m n 0 1 _ 87 _).trans (by rw [if_neg (by omega), if_pos ⟨rfl, rfl⟩, if_pos c])
    · exact (fxM_at J m n 0 1 _ 88 _).trans (by rw [if_pos ⟨rfl, rfl⟩])
/-- one operand -/
theorem c354_36 (xs : List Int32) (d : Nat) {J : JV} {D : Nat → Prop} {σ : RS} {m : yM} (h : RJ J D σ m) {n : Nat} (hn : n < J.2.2.1.length) (hK : kids J.2.2.1 n = [n + 1]) (k1 : exK (kK J.2.2.1 (n + 1))) (d1 : D (n + 1)) (kn : kK J.2.2.1 n = 36) (ks : σ.2.2.1 n = 36) (hvt : vtF J.2.2.1 n = 0) (hv : σ.2.2.2.1 n = vF J.2.2.1 n) : yC (xg xs) (d + 3) 354 [.ref 58, .int (nI (J.2.2.2 n)), .int 36] m (JQ J (fun i => D i ∨ i = n) m n (lkOne J.2.2.1 σ n)) := by
  have hT := h.1
  have e64 := (hT.2.1 n hn).2.2.2.1 hvt
  have n1 := (h.n d1).1
  have e0 := hT.k0 hn (c := n + 1) (by rw [hK]; rfl)
  have c1 := hT.c n1
  have x1 := hT.x n1
  have ei := hT.c hn
  have xi := hT.x hn
  obtain ⟨t84, t87, t88⟩ := (h.n d1).2.1 k1
  have nei : ¬ J.2.2.2 (n + 1) = J.2.2.2 n := fun z => by have := hT.2.2.1 _ _ n1 hn z; omega
  unfold lkOne
  rw [hK]
  generalize hT' : σ.2.2.2.2 (n + 1) = T at *
  have al : (([n + 1] : List Nat).all (cnB (setT σ n T)) = true) ↔ cnP σ (n + 1) := by
    rw [List.all_cons, List.all_nil, Bool.and_true]
    exact decide_eq_true_iff
  have s234 : ∀ (u : Int32) (b : Bool), u = (if b = true then 1 else 0) → b = decide (σ.2.2.2.1 n = 0 ∧ T = 0) → yP (xg xs) (d + 3) 354 234 [(0, .ref 58), (1, .int (nI (J.2.2.2 n))), (3, .int (nI (J.2.2.2 (n + 1))))] [.int u, .int (28 : Int32), .ref 58] m (JQ J (fun i => D i ∨ i = n) m n (if σ.2.2.2.1 n = 0 ∧ T = 0 then .inr 28 else if ([n + 1] : List Nat).all (cnB (setT σ n T)) = true then .inl (bcN (setT σ n T) n (one_ (nOne (σ.2.2.2.1 n) T) (σ.2.2.2.1 (n + 1)))) else .inl (setT σ n T))) := by
    intro u b hu hb
    refine w354_234 xs (d + 2) _ _ _ _ m _ (rlb (by omega) (by decide) hT hn h.2.1.f0 false b hu ⟨x1, xi, x1, x1, ?_⟩)
    rw [Bool.false_or, c1, ei, flb_at _ _ _ _ _ _ _ (by decide), flb_at _ _ _ _ _ _ _ (by decide), t84, t87]
    have fin : ∀ (c x : Int32) (R : RS ⊕ Int32), (c = 0 ∨ c = 1) → (¬ (σ.2.2.2.1 n = 0 ∧ T = 0) → ∃ σ', R = .inl σ' ∧ RJ J (fun i => D i ∨ i = n) σ' (fxM J m n T c x)) → yP (xg xs) (d + 3) 354 285 [] [.int x, .int c, .int (nI (J.2.2.2 n)), .ref 58] (y_si (flb J m 28 n b) 84 (J.2.2.2 n) T) (JQ J (fun i => D i ∨ i = n) m n (if σ.2.2.2.1 n = 0 ∧ T = 0 then .inr 28 else R)) := by
      intro c x R hc hR
      have jk : JK m (flb J m 28 n b) := (JK.re m).fb J 28 n b
      refine w354_285 xs (d + 2) _ _ _ _ _ (y_cv (c355 xs (d + 1) (hT.k (jk.si (by omega))) hn hc _) (by omega) ?_)
      by_cases q : σ.2.2.2.1 n = 0 ∧ T = 0
      · rw [if_pos q, hb, decide_eq_true q, flb_t]
        have fe := FE.mk J m (show (0 : Int32) < 28 by decide) n
        refine ⟨rfl, ((JK.re m).fl J 28 n).fx J n T c x, ?_, fe.2.1, ?_⟩
        · exact (fxM_at J (flM2 J m 28 n) n T c x 58 3).trans (by rw [if_neg (by omega), if_neg (by omega), if_neg (by omega)]; exact fe.1)
        · exact (fxM_at J (flM2 J m 28 n) n T c x 58 4).trans (by rw [if_neg (by omega), if_neg (by omega), if_neg (by omega)]; exact fe.2.2)
      · obtain ⟨σ', rfl, r⟩ := hR q
        rw [if_neg q, hb, decide_eq_false q, flb_f]
        exact ⟨rfl, (JK.re m).fx J n T c x, r⟩
    by_cases cn : cnP σ (n + 1)
    · rw [if_pos cn]
      refine ⟨fun z => absurd z (by decide), fun _ => ?_⟩
      generalize hm1 : y_si (flb J m 28 n b) 84 (J.2.2.2 n) T = m1
      have a64 : m1.1 64 (J.2.2.2 n) = σ.2.2.2.1 n := by rw [← hm1, y_si_at, if_neg (by omega), flb_at _ _ _ _ _ _ _ (by decide), e64, hv]
      have a84 : m1.1 84 (J.2.2.2 n) = T := by rw [← hm1, y_si_same]
      have a88 : m1.1 88 (J.2.2.2 (n + 1)) = σ.2.2.2.1 (n + 1) := by rw [← hm1, y_si_at, if_neg (by omega), flb_at _ _ _ _ _ _ _ (by decide)]; exact t88 cn
      have c366 : yC (xg xs) (d + 2) 366 [.ref 58, .int (nI (J.2.2.2 n))] m1 (fun r m' => r = some (.int (nOne (σ.2.2.2.1 n) T)) ∧ m' = m1) := by
        refine w366_0 xs (d + 1) _ m1 _ ⟨xi, ?_⟩
        rw [ei, a64, a84]
        unfold nOne
        refine ⟨fun z => ⟨xi, fun y => ⟨by rw [if_neg z, if_neg y], rfl⟩, fun y => ⟨by rw [if_neg z, if_pos y], rfl⟩⟩, fun z => ⟨xi, fun y => ⟨by rw [if_pos z, if_neg y], rfl⟩, fun y => ⟨by rw [if_pos z, if_pos y], rfl⟩⟩⟩
      refine y_ci c366 (by omega) ⟨x1, ?_⟩
      rw [a88]
      refine y_ci (c361 xs (d + 1) m1 _ _) (by omega) ?_
      rw [← hm1]
      refine fin 1 _ _ (Or.inr rfl) (fun _ => ⟨_, by rw [if_pos (al.mpr cn)], RJ.e1 h hn (by omega) (fun _ _ _ => rfl) rfl T _⟩)
    · rw [if_neg cn]
      refine ⟨fun _ => ?_, fun z => absurd rfl z⟩
      refine fin 0 _ _ (Or.inl rfl) (fun _ => ⟨_, by rw [if_neg (fun z => cn (al.mp z))], RJ.e0 h hn (by omega) (by rw [ks, kn]; rfl) T _⟩)
  refine w354_0 xs (d + 2) _ _ m _ ⟨fun w => absurd w (by decide), fun w => absurd w (by decide), fun w => absurd w (by decide), fun w => absurd w (by decide), fun w => absurd w (by decide), fun w => absurd w (by decide), fun _ _ _ _ _ _ => ⟨xi, xi, ?_⟩⟩
  rw [ei, e0, e64, ← hv, c1, t84]
  refine ⟨fun w => w354_233 xs (d + 2) _ _ _ m _ (s234 0 false rfl (decide_eq_false (fun z => w z.1)).symm), fun w => ⟨x1, fun z => w354_233 xs (d + 2) _ _ _ m _ (s234 0 false rfl (decide_eq_false (fun y => z y.2)).symm), fun z => s234 1 true rfl (decide_eq_true ⟨w, z⟩).symm⟩⟩
