/-! THE REFERENCE'S READER: its small steps -/
theorem sK_ge {s : Nat} (h : sOk s) : 70 ≤ sK s ∧ sK s < 256 := by
  unfold sK
  split <;> omega
theorem sK_inj {s r : Nat} (h : sOk s) (h' : sOk r) (e : sK s = sK r) : s = r := by
  unfold sK at e
  split at e <;> split at e <;> omega
theorem RK.word {E : EV} {Rs : List (List Int32)} {t : Nat} {a v : Int32} (h : RK E Rs t a v) {w : Nat} (hw : w < 41) : (a = 1 ∧ v = nI w) ↔ E.1.1 9 t = nI w := by
  obtain ⟨K, k1, k2, k3⟩ := h
  rw [k1, nI_eq (by omega) (by omega)]
  rcases k3 with ⟨k, rfl, rfl⟩ | ⟨k, rfl, _⟩ | ⟨k, rfl, _⟩ | ⟨k, rfl, _⟩ | ⟨k, rfl⟩ | ⟨s, s1, k, rfl, _⟩
  · rw [nI_eq (by omega) (by omega)]
    simp
  · exact ⟨fun u => absurd u.1 (by decide), fun u => by omega⟩
  · exact ⟨fun u => absurd u.1 (by decide), fun u => by omega⟩
  · exact ⟨fun u => absurd u.1 (by decide), fun u => by omega⟩
  · exact ⟨fun u => absurd u.1 (by decide), fun u => by omega⟩
  · have := sK_ge s1
    exact ⟨fun u => absurd u.1 (by decide), fun u => by omega⟩
theorem RK.sign {E : EV} {Rs : List (List Int32)} {t : Nat} {a v : Int32} (h : RK E Rs t a v) {s : Nat} (hs : sOk s) : (a = 5 ∧ v = nI s) ↔ E.1.1 9 t = nI (sK s) := by
  obtain ⟨K, k1, k2, k3⟩ := h
  have g := sK_ge hs
  rw [k1, nI_eq (by omega) (by omega)]
  rcases k3 with ⟨k, rfl, rfl⟩ | ⟨k, rfl, _⟩ | ⟨k, rfl, _⟩ | ⟨k, rfl, _⟩ | ⟨k, rfl⟩ | ⟨r, s1, k, rfl, rfl⟩
  · exact ⟨fun u => absurd u.1 (by decide), fun u => by omega⟩
  · exact ⟨fun u => absurd u.1 (by decide), fun u => by omega⟩
  · exact ⟨fun u => absurd u.1 (by decide), fun u => by omega⟩
  · exact ⟨fun u => absurd u.1 (by decide), fun u => by omega⟩
  · exact ⟨fun u => absurd u.1 (by decide), fun u => by omega⟩
  · rw [nI_eq (by omega) (by omega)]
    refine ⟨fun u => by rw [k, u.2], fun u => ⟨rfl, sK_inj s1 hs (by omega)⟩⟩
theorem RK.kind {E : EV} {Rs : List (List Int32)} {t : Nat} {a v : Int32} (h : RK E Rs t a v) : (a = 2 ↔ E.1.1 9 t = 64) ∧ (a = 3 ↔ E.1.1 9 t = 65) ∧ (a = 4 ↔ E.1.1 9 t = 66) ∧ (a = 0 ↔ E.1.1 9 t = 67) ∧ (a = 1 ↔ ∃ K, K < 41 ∧ E.1.1 9 t = nI K) := by
  obtain ⟨K, k1, k2, k3⟩ := h
  have e (b : Nat) (hb : b < 256) : nI K = nI b ↔ K = b := nI_eq (by omega) (by omega)
  have e64 : nI K = 64 ↔ K = 64 := e 64 (by omega)
  have e65 : nI K = 65 ↔ K = 65 := e 65 (by omega)
  have e66 : nI K = 66 ↔ K = 66 := e 66 (by omega)
  have e67 : nI K = 67 ↔ K = 67 := e 67 (by omega)
  have eK : (∃ J, J < 41 ∧ nI K = nI J) ↔ K < 41 := ⟨fun ⟨J, j1, j2⟩ => by rw [e J (by omega)] at j2; omega, fun u => ⟨K, u, rfl⟩⟩
  rw [k1, e64, e65, e66, e67, eK]
  rcases k3 with ⟨k, rfl, _⟩ | ⟨k, rfl, _⟩ | ⟨k, rfl, _⟩ | ⟨k, rfl, _⟩ | ⟨k, rfl⟩ | ⟨r, s1, k, rfl, _⟩
  · exact ⟨⟨fun u => absurd u (by decide), fun u => by omega⟩, ⟨fun u => absurd u (by decide), fun u => by omega⟩, ⟨fun u => absurd u (by decide), fun u => by omega⟩, ⟨fun u => absurd u (by decide), fun u => by omega⟩, ⟨fun _ => k, fun _ => rfl⟩⟩
  · exact ⟨⟨fun _ => k, fun _ => rfl⟩, ⟨fun u => absurd u (by decide), fun u => by omega⟩, ⟨fun u => absurd u (by decide), fun u => by omega⟩, ⟨fun u => absurd u (by decide), fun u => by omega⟩, ⟨fun u => absurd u (by decide), fun u => by omega⟩⟩
  · exact ⟨⟨fun u => absurd u (by decide), fun u => by omega⟩, ⟨fun _ => k, fun _ => rfl⟩, ⟨fun u => absurd u (by decide), fun u => by omega⟩, ⟨fun u => absurd u (by decide), fun u => by omega⟩, ⟨fun u => absurd u (by decide), fun u => by omega⟩⟩
  · exact ⟨⟨fun u => absurd u (by decide), fun u => by omega⟩, ⟨fun u => absurd u (by decide), fun u => by omega⟩, ⟨fun _ => k, fun _ => rfl⟩, ⟨fun u => absurd u (by decide), fun u => by omega⟩, ⟨fun u => absurd u (by decide), fun u => by omega⟩⟩
  · exact ⟨⟨fun u => absurd u (by decide), fun u => by omega⟩, ⟨fun u => absurd u (by decide), fun u => by omega⟩, ⟨fun u => absurd u (by decide), fun u => by omega⟩, ⟨fun _ => k, fun _ => rfl⟩, ⟨fun u => absurd u (by decide), fun u => by omega⟩⟩
  · have := sK_ge s1
    exact ⟨⟨fun u => absurd u (by decide), fun u => by omega⟩, ⟨fun u => absurd u (by decide), fun u => by omega⟩, ⟨fun u => absurd u (by decide), fun u => by omega⟩, ⟨fun u => absurd u (by decide), fun u => by omega⟩, ⟨fun u => absurd u (by decide), fun u => by omega⟩⟩
theorem RRo.rk {E : EV} {t o z : Nat} {Rs : List (List Int32)} {m : yM} (h : RRo E t o z Rs m) : RK E Rs t (m.1 58 6) (m.1 58 7) := h.2.2.2.2.2.2.2.2.2.2.1
theorem RRo.f0 {E : EV} {t o z : Nat} {Rs : List (List Int32)} {m : yM} (h : RRo E t o z Rs m) : m.1 58 3 = 0 := h.2.2.2.2.2.2.1
theorem RRo.pl {E : EV} {t o z : Nat} {Rs : List (List Int32)} {m : yM} (h : RRo E t o z Rs m) : m.1 58 8 = E.1.1 10 t := h.2.2.2.2.2.2.2.2.1
theorem RRo.lt {E : EV} (hE : EOk E) {t o z : Nat} {Rs : List (List Int32)} {m : yM} (h : RRo E t o z Rs m) (h67 : ¬ E.1.1 9 t = 67) : t < E.2.2.2.2 := by
  rcases Nat.lt_or_ge t E.2.2.2.2 with u | u
  · exact u
  · have eT : t = E.2.2.2.2 := by have := h.2.2.2.2.2.1; omega
    rcases hE.1.2.1 with v | v
    · rw [← eT] at v; exact absurd v h67
    · rw [← eT] at v
      obtain ⟨K, k1, k2, k3⟩ := h.rk
      have u2 := (nI_eq (a := K) (b := 68) (by omega) (by decide)).mp (k1.symm.trans v.1)
      rcases k3 with k | k | k | k | k | ⟨s, s1, k, _⟩
      · have := k.1; omega
      · have := k.1; omega
      · have := k.1; omega
      · have := k.1; omega
      · have := k.1; omega
      · have := sK_ge s1
        omega
theorem RRe.si {E : EV} {c p : Int32} {m : yM} (h : RRe E c p m) {k i : Nat} {v : Int32} (hk : (k = 58 ∧ ((5 ≤ i ∧ i ≤ 9) ∨ i = 22)) ∨ k = 62 ∨ k = 63 ∨ k = 64 ∨ k = 65 ∨ k = 68 ∨ k = 69) : RRe E c p (y_si m k i v) := by
  obtain ⟨h1, h2, h3, h4, ⟨z, h5, h6⟩, h7, h8⟩ := h
  refine ⟨h1.si (by omega), ?_, h3, ?_, ⟨z, ?_, h6⟩, h7.si (by omega), ?_⟩ <;> (rw [y_si_at, if_neg (by omega)]; assumption)
theorem RRe.ne {E : EV} {c p : Int32} {m : yM} (h : RRe E c p m) : ¬ m.1 58 3 = 0 := by
  intro u
  have h3 := h.2.2.1
  rw [← h.2.1, u] at h3
  exact absurd h3 (by decide)
/-- what a step leaves, beside its pure answer -/
def RZ (E : EV) (z : Nat) (Rs : List (List Int32)) (m : yM) (Y : PX) (m' : yM) : Prop := match Y with
  | .inr e => RRe E e.1 e.2 m'
  | .inl (t, o, G) => G = [] ∧ FM m m' ∧ ∃ Rs', Rs <+: Rs' ∧ RRo E t o z Rs' m'
theorem c272r (xs : List Int32) (d : Nat) {E : EV} (hE : EOk E) {t o z : Nat} {Rs : List (List Int32)} {m : yM} (h : RRo E t o z Rs m) (h67 : ¬ E.1.1 9 t = 67) : yC (xg xs) (d + 6) 272 [.ref 58] m (fun r m' => r = none ∧ RZ E z Rs m (p_step E.1 t o) m') := by
  have lt := h.lt hE h67
  have hp := psL hE (t + 1) lt
  have h8 := hE.2.1
  have h4 := h.2.2.2.1
  refine yC.mono (Nat.le_refl _) (fun r m' q => ?_) (c272 xs d m h.2.1 (ps E.2.2.1 E.2.2.2.1 (t + 1)) h.2.2.2.2.2.2.2.1 h.f0 hp Rs h.2.2.1 (by omega) h.2.2.2.2.1)
  obtain ⟨q1, q2, q3⟩ := nxt hE (h.rd lt) q
  refine ⟨q1, ?_⟩
  unfold p_step
  by_cases k : E.1.1 9 (t + 1) = 68
  · rw [if_pos k] at q3 ⊢
    exact q3
  · rw [if_neg k] at q3 ⊢
    exact ⟨rfl, q2, q3⟩
theorem c272x (xs : List Int32) (d : Nat) {E : EV} {c p : Int32} {m : yM} (h : RRe E c p m) : yC (xg xs) (d + 6) 272 [.ref 58] m (fun r m' => r = none ∧ RRe E c p m') := by
  refine w272_0 xs (d + 5) m _ ⟨fun z => absurd z ?_, fun _ => ⟨rfl, h.si (by omega)⟩⟩
  rw [h.2.1]
  exact Int32.not_le.mpr h.2.2.1
/-- a fault told -/
def flM (m : yM) (c : Int32) : yM := if m.1 58 3 = 0 then y_si (y_si m 58 3 c) 58 4 (m.1 58 8) else m
theorem RRo.fail {E : EV} {t o z : Nat} {Rs : List (List Int32)} {m : yM} (h : RRo E t o z Rs m) (c : Int32) (hc : 0 < c) : RRe E c (E.1.1 10 t) (flM m c) := by
  have h3 := h.f0
  have h8 := h.pl
  obtain ⟨h1, -, hr, -, -, -, -, -, -, -, -, -, -, h14, h15, h16⟩ := h
  unfold flM
  rw [if_pos h3]
  refine ⟨(h1.si (by omega)).si (by omega), by simp [y_si_at], hc, by simp [y_si_at, h8], ⟨z, by simp [y_si_at, h14], h15⟩, (h16.si (by omega)).si (by omega), ?_⟩
  have := hr.at0
  simp [y_si_at, this]
theorem RRe.fail {E : EV} {c p : Int32} {m : yM} (h : RRe E c p m) (f : Int32) : flM m f = m := if_neg h.ne
theorem c291 (xs : List Int32) (d : Nat) (m : yM) (u : Int32) : yC (xg xs) (d + 2) 291 [.ref 58, .int u] m (fun r m' => r = none ∧ m' = (if u = 0 then flM m 6 else m)) := by
  refine w291_0 xs (d + 1) _ m _ ⟨fun z => ⟨rfl, (if_neg z).symm⟩, fun z => ?_⟩
  exact y_cv (c276 xs (d + 1) m 6 (m.1 58 8)) (Nat.le_refl _) ⟨rfl, (if_pos z).symm⟩
theorem c290 (xs : List Int32) (d : Nat) {E : EV} {t o z : Nat} {Rs : List (List Int32)} {m : yM} (h : RRo E t o z Rs m) (w : Nat) (hw : w < 41) : yC (xg xs) (d + 1) 290 [.ref 58, .int (nI w)] m (fun r m' => r = some (.int (if E.1.1 9 t = nI w then 1 else 0)) ∧ m' = m) := by
  have k := h.rk.word hw
  refine w290_0 xs d _ m _ ⟨fun u => absurd h.f0 u, fun _ => ⟨fun u => ⟨?_, rfl⟩, fun u => ⟨fun v => ⟨?_, rfl⟩, fun v => ⟨?_, rfl⟩⟩⟩⟩
  · rw [if_neg (fun e => u (k.mpr e).1)]
  · rw [if_neg (fun e => v (k.mpr e).2)]
  · rw [if_pos (k.mp ⟨u, v⟩)]
theorem c295 (xs : List Int32) (d : Nat) {E : EV} {t o z : Nat} {Rs : List (List Int32)} {m : yM} (h : RRo E t o z Rs m) (s : Nat) (hs : sOk s) : yC (xg xs) (d + 1) 295 [.ref 58, .int (nI s)] m (fun r m' => r = some (.int (if E.1.1 9 t = nI (sK s) then 1 else 0)) ∧ m' = m) := by
  have k := h.rk.sign hs
  refine w295_0 xs d _ m _ ⟨fun u => absurd h.f0 u, fun _ => ⟨fun u => ⟨?_, rfl⟩, fun u => ⟨fun v => ⟨?_, rfl⟩, fun v => ⟨?_, rfl⟩⟩⟩⟩
  · rw [if_neg (fun e => u (k.mpr e).1)]
  · rw [if_neg (fun e => v (k.mpr e).2)]
  · rw [if_pos (k.mp ⟨u, v⟩)]
abbrev kOk (a K : Nat) : Prop := (a = 2 ∧ K = 64) ∨ (a = 3 ∧ K = 65) ∨ (a = 4 ∧ K = 66)
theorem c293 (xs : List Int32) (d : Nat) {E : EV} {t o z : Nat} {Rs : List (List Int32)} {m : yM} (h : RRo E t o z Rs m) (a K : Nat) (hk : kOk a K) : yC (xg xs) (d + 1) 293 [.ref 58, .int (nI a)] m (fun r m' => r = some (.int (if E.1.1 9 t = nI K then 1 else 0)) ∧ m' = m) := by
  have k : m.1 58 6 = nI a ↔ E.1.1 9 t = nI K := by
    have r := h.rk.kind
    rcases hk with ⟨rfl, rfl⟩ | ⟨rfl, rfl⟩ | ⟨rfl, rfl⟩
    · exact r.1
    · exact r.2.1
    · exact r.2.2.1
  refine w293_0 xs d _ m _ ⟨fun u => absurd h.f0 u, fun _ => ⟨fun u => ⟨?_, rfl⟩, fun u => ⟨?_, rfl⟩⟩⟩
  · rw [if_neg (fun e => u (k.mpr e))]
  · rw [if_pos (k.mp u)]
theorem c290x (xs : List Int32) (d : Nat) {E : EV} {c p : Int32} {m : yM} (h : RRe E c p m) (w : Int32) : yC (xg xs) (d + 1) 290 [.ref 58, .int w] m (fun r m' => r = some (.int 0) ∧ m' = m) :=
  w290_0 xs d _ m _ ⟨fun _ => ⟨rfl, rfl⟩, fun u => absurd u h.ne⟩
theorem c295x (xs : List Int32) (d : Nat) {E : EV} {c p : Int32} {m : yM} (h : RRe E c p m) (w : Int32) : yC (xg xs) (d + 1) 295 [.ref 58, .int w] m (fun r m' => r = some (.int 0) ∧ m' = m) :=
  w295_0 xs d _ m _ ⟨fun _ => ⟨rfl, rfl⟩, fun u => absurd u h.ne⟩
theorem c293x (xs : List Int32) (d : Nat) {E : EV} {c p : Int32} {m : yM} (h : RRe E c p m) (w : Int32) : yC (xg xs) (d + 1) 293 [.ref 58, .int w] m (fun r m' => r = some (.int 0) ∧ m' = m) :=
  w293_0 xs d _ m _ ⟨fun _ => ⟨rfl, rfl⟩, fun u => absurd u h.ne⟩
theorem c294 (xs : List Int32) (d : Nat) {E : EV} (hE : EOk E) {t o z : Nat} {Rs : List (List Int32)} {m : yM} (h : RRo E t o z Rs m) (s : Nat) (hs : sOk s) : yC (xg xs) (d + 7) 294 [.ref 58, .int (nI s)] m (fun r m' => r = none ∧ RZ E z Rs m (p_exp E.1 (nI (sK s)) t o) m') := by
  refine w294_0 xs (d + 6) _ m _ (y_ci (c295 xs (d + 5) h s hs) (by omega) ?_)
  refine y_cv (c291 xs (d + 4) m _) (by omega) ?_
  have g := sK_ge hs
  unfold p_exp
  by_cases k : E.1.1 9 t = nI (sK s)
  · rw [if_pos k, if_pos k, if_neg (by decide)]
    refine y_fin (c272r xs d hE h ?_) (by omega)
    rw [k]
    exact fun u => absurd ((nI_eq (a := sK s) (b := 67) (by omega) (by decide)).mp u) (by omega)
  · rw [if_neg k, if_neg k, if_pos rfl]
    exact y_fin (c272x xs d (h.fail 6 (by decide))) (by omega)
theorem c294x (xs : List Int32) (d : Nat) {E : EV} {c p : Int32} {m : yM} (h : RRe E c p m) (s : Int32) : yC (xg xs) (d + 7) 294 [.ref 58, .int s] m (fun r m' => r = none ∧ RRe E c p m') := by
  refine w294_0 xs (d + 6) _ m _ (y_ci (c295x xs (d + 5) h s) (by omega) ?_)
  refine y_cv (c291 xs (d + 4) m _) (by omega) ?_
  rw [if_pos rfl, h.fail]
  exact y_fin (c272x xs d h) (by omega)
theorem c302 (xs : List Int32) (d : Nat) {E : EV} (hE : EOk E) {t o z : Nat} {Rs : List (List Int32)} {m : yM} (h : RRo E t o z Rs m) (w : Nat) (hw : w < 41) : yC (xg xs) (d + 7) 302 [.ref 58, .int (nI w)] m (fun r m' => r = none ∧ RZ E z Rs m (p_exp E.1 (nI w) t o) m') := by
  refine w302_0 xs (d + 6) _ m _ (y_ci (c290 xs (d + 5) h w hw) (by omega) ?_)
  refine y_cv (c291 xs (d + 4) m _) (by omega) ?_
  unfold p_exp
  by_cases k : E.1.1 9 t = nI w
  · rw [if_pos k, if_pos k, if_neg (by decide)]
    refine y_fin (c272r xs d hE h ?_) (by omega)
    rw [k]
    exact fun u => absurd ((nI_eq (a := w) (b := 67) (by omega) (by decide)).mp u) (by omega)
  · rw [if_neg k, if_neg k, if_pos rfl]
    exact y_fin (c272x xs d (h.fail 6 (by decide))) (by omega)
theorem c302x (xs : List Int32) (d : Nat) {E : EV} {c p : Int32} {m : yM} (h : RRe E c p m) (s : Int32) : yC (xg xs) (d + 7) 302 [.ref 58, .int s] m (fun r m' => r = none ∧ RRe E c p m') := by
  refine w302_0 xs (d + 6) _ m _ (y_ci (c290x xs (d + 5) h s) (by omega) ?_)
  refine y_cv (c291 xs (d + 4) m _) (by omega) ?_
  rw [if_pos rfl, h.fail]
  exact y_fin (c272x xs d h) (by omega)
/-- one more is open -/
def p_opn (m0 : yM) (t o : Nat) : PX := if o < 60 then .inl (t, o + 1, []) else p_ref m0 7 t
theorem p_into_b (m0 : yM) (t o : Nat) : p_into m0 t o = p_bind (p_opn m0 t o) (p_step m0) := by
  unfold p_into p_opn
  split
  · rw [p_bind_aft, aft_nil]
  · rfl
theorem RRo.op {E : EV} {t o z : Nat} {Rs : List (List Int32)} {m : yM} (h : RRo E t o z Rs m) (o' : Nat) (ho : o' ≤ 60) : RRo E t o' z Rs (y_si m 58 22 (nI o')) := by
  obtain ⟨h1, h2, h3, h4, h5, h6, h7, h8, h9, h10, h11, h12, h13, h14, h15, h16⟩ := h
  refine ⟨h1.si (by omega), h2.si (by decide) (Or.inr (by decide)), h3.si (by decide) (Or.inr (by decide)), h4, h5, h6, ?_, ?_, ?_, ?_, ?_, by rw [y_si_at, if_pos ⟨rfl, rfl⟩], ho, ?_, h15, h16.si (by decide)⟩ <;> (repeat rw [y_si_at, if_neg (by decide)]) <;> assumption
theorem FM.si {m : yM} {k i : Nat} {v : Int32} (hk : k < 62) : FM m (y_si m k i v) := fun a b ha => by
  rw [y_si_at, if_neg (by omega)]
theorem c307 (xs : List Int32) (d : Nat) {E : EV} {t o z : Nat} {Rs : List (List Int32)} {m : yM} (h : RRo E t o z Rs m) : yC (xg xs) (d + 2) 307 [.ref 58] m (fun r m' => r = none ∧ RZ E z Rs m (p_opn E.1 t o) m') := by
  have h22 := h.2.2.2.2.2.2.2.2.2.2.2.1
  have ho := h.2.2.2.2.2.2.2.2.2.2.2.2.1
  unfold p_opn
  refine w307_0 xs (d + 1) m _ ⟨fun u => ?_, fun u => ?_⟩
  · rw [h22] at u
    have lt : o < 60 := by
      rcases Nat.lt_or_ge o 60 with v | v
      · exact v
      · exact absurd (show nI o = 60 from by rw [show o = 60 from by omega]; rfl) u
    refine w307_19 xs (d + 1) m _ ⟨rfl, ?_⟩
    rw [if_pos lt, h22, nI_1]
    exact ⟨rfl, FM.si (by decide), Rs, List.prefix_refl _, h.op (o + 1) (by omega)⟩
  · rw [h22] at u
    have ge : ¬ o < 60 := by
      have := (nI_eq (a := o) (b := 60) (by omega) (by decide)).mp u
      omega
    refine y_cv (c276 xs (d + 1) m 7 (m.1 58 8)) (Nat.le_refl _) ?_
    refine w307_19 xs (d + 1) _ _ ⟨rfl, ?_⟩
    rw [if_neg ge]
    exact (h.fail 7 (by decide)).si (by omega)
theorem c307x (xs : List Int32) (d : Nat) {E : EV} {c p : Int32} {m : yM} (h : RRe E c p m) : yC (xg xs) (d + 2) 307 [.ref 58] m (fun r m' => r = none ∧ RRe E c p m') := by
  refine w307_0 xs (d + 1) m _ ⟨fun u => ?_, fun u => ?_⟩
  · exact w307_19 xs (d + 1) m _ ⟨rfl, h.si (by omega)⟩
  · refine y_cv (c276 xs (d + 1) m 7 (m.1 58 8)) (Nat.le_refl _) ?_
    rw [if_neg h.ne]
    exact w307_19 xs (d + 1) m _ ⟨rfl, h.si (by omega)⟩
