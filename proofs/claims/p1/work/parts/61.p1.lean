/-! ONE CALL ON A FRESH OBJECT: laid by wip/gen/small15.py -/
set_option maxRecDepth 20000 in
/-- CodeMaker.run with nothing at hand -/
theorem c242n (xs : List Int32) (d : Nat) (m : yM) (t : Int32) (h : m.1 0 12 = 0) : yC (xg xs) d 242 [.ref 0, .int t] m (fun r m' => r = some (.int (-1)) ∧ m' = m) := by
  refine y_st rfl rfl rfl rfl rfl (fun _ _ => rfl) ?_
  refine y_gf rfl rfl rfl rfl rfl ?_
  show yP (xg xs) d 242 4 [(0, .ref 0), (1, .int t)] [.int (m.1 0 12)] m _
  refine y_zeq (t := 17) rfl rfl rfl (fun h4 => ?_) (fun h4 => ?_)
  · refine y_st rfl rfl rfl rfl rfl (fun _ _ => rfl) ?_
    show yP (xg xs) d 242 18 [(0, .ref 0), (1, .int t)] [.int ((-1) : Int32)] m _
    exact y_iret rfl rfl rfl (⟨rfl, rfl⟩)
  · exact absurd h h4
set_option maxRecDepth 20000 in
/-- reference: run with nothing at hand -/
theorem c394n (xs : List Int32) (d : Nat) (m : yM) (t : Int32) (h : m.1 58 61 = 0) : yC (xg xs) d 394 [.ref 58, .int t] m (fun r m' => r = some (.int (-1)) ∧ m' = y_si m 58 0 0) := by
  refine y_st rfl rfl rfl rfl rfl (fun _ _ => rfl) ?_
  refine y_st rfl rfl rfl rfl rfl (fun _ _ => rfl) ?_
  refine y_pfi rfl rfl rfl rfl rfl (x_fit_i _) ?_
  show yP (xg xs) d 394 5 [(0, .ref 58), (1, .int t)] [] (y_si m 58 0 (0 : Int32)) _
  refine y_st rfl rfl rfl rfl rfl (fun _ _ => rfl) ?_
  refine y_gf rfl rfl rfl rfl rfl ?_
  show yP (xg xs) d 394 9 [(0, .ref 58), (1, .int t)] [.int (m.1 58 61)] (y_si m 58 0 (0 : Int32)) _
  refine y_zeq (t := 23) rfl rfl rfl (fun h9 => ?_) (fun h9 => ?_)
  · refine y_st rfl rfl rfl rfl rfl (fun _ _ => rfl) ?_
    show yP (xg xs) d 394 24 [(0, .ref 58), (1, .int t)] [.int ((-1) : Int32)] (y_si m 58 0 (0 : Int32)) _
    exact y_iret rfl rfl rfl (⟨rfl, rfl⟩)
  · exact absurd h h9
theorem opOk.wk {xs : List Int32} {D : Nat} {I I' J J' : yM → Prop} {jx jm : Nat} {as : List Value} (h : opOk xs D I I' jx jm as) (h1 : ∀ m, J m → I m) (h2 : ∀ m, I' m → J' m) : opOk xs D J J' jx jm as := fun m hm =>
  yC.mono (Nat.le_refl _) (fun r m1 ⟨v, e, k⟩ => ⟨v, e, yC.mono (Nat.le_refl _) (fun r2 m2 ⟨e2, i2⟩ => ⟨e2, h2 _ i2⟩) k⟩) (h m (h1 m hm))
/-- nothing is at hand, and both have the same fault -/
def R0 (m : yM) : Prop := m.1 0 10 = m.1 58 3 ∧ m.1 0 11 = m.1 58 4 ∧ m.1 0 12 = 0 ∧ m.1 58 61 = 0
theorem R0.rh (m : yM) (h : R0 m) : Rh m := ⟨h.1, h.2.1, h.2.2.1.trans h.2.2.2.symm, Or.inl h.2.2.1, fun z => absurd h.2.2.1 z⟩
theorem R0.cl : ClT R0 := by
  intro m m' hs h
  have e : ∀ a i, a ≠ 1 → a ≠ 59 → ¬ (a = 0 ∧ i = 9) → ¬ (a = 58 ∧ (i = 0 ∨ i = 2)) → m'.1 a i = m.1 a i := hs.1
  refine ⟨?_, ?_, ?_, ?_⟩
  · rw [e 0 10 (by decide) (by decide) (by decide) (by decide), e 58 3 (by decide) (by decide) (by decide) (by decide)]; exact h.1
  · rw [e 0 11 (by decide) (by decide) (by decide) (by decide), e 58 4 (by decide) (by decide) (by decide) (by decide)]; exact h.2.1
  · rw [e 0 12 (by decide) (by decide) (by decide) (by decide)]; exact h.2.2.1
  · rw [e 58 61 (by decide) (by decide) (by decide) (by decide)]; exact h.2.2.2
theorem R0.w (m : yM) (c : Nat) (v : Int32) (_ : c < 8192) (h : R0 m) : R0 (y_si (y_si (y_si m 53 c v) 58 0 0) 98 c v) := by
  unfold R0
  simp only [y_si_at]
  exact h
def Iv (t : Nat) (m : yM) : Prop := t = 0 → m = y_m0
theorem Iv.in {t : Nat} (h : t = 0) (m : yM) (hm : Iv t m) : InT R0 m := by
  rw [hm h]
  exact ⟨⟨0, rfl, rfl, Nat.zero_le _, fun i hi => absurd hi (Nat.not_lt_zero _)⟩, rfl, rfl, rfl, rfl⟩
theorem Iv.out {t : Nat} (m : yM) : Iv (t + 1) m := fun z => absurd z (Nat.succ_ne_zero t)
theorem x_p1 (xs : List Int32) (hL : xs.length ≤ 6) : x_Run1 xs := by
  have t0 : ∀ t, 6 * t + 6 ≤ xs.length → t = 0 := fun t h => by omega
  refine x_run xs hL 6 (by decide) Iv (fun t m _ => Iv.out m) (fun _ => rfl) ?_ ?_ ?_ ?_ ?_ ?_ ?_ ?_ ?_ ?_
  · exact fun t h => (op_clear xs 10 R0.cl).wk (Iv.in (t0 t h)) (fun m _ => Iv.out m)
  · exact fun t h a1 a2 a3 a4 a5 => (op_feed xs 9 R0.cl a1 a2 a3 a4 a5).wk (Iv.in (t0 t h)) (fun m _ => Iv.out m)
  · exact fun t h a1 => (op_end xs 10 R0.cl a1).wk (Iv.in (t0 t h)) (fun m _ => Iv.out m)
  · intro t h m hm
    rw [hm (t0 t h)]
    refine yC.mono (Nat.le_refl _) ?_ (c18e xs 4 y_m0 rfl rfl)
    rintro r m1 ⟨rfl, k⟩
    refine ⟨10, rfl, yC.mono (by omega) ?_ (c269e xs 4 m1 (by rw [k 58 (by decide)]; rfl))⟩
    rintro r2 m2 rfl
    exact ⟨rfl, Iv.out _⟩
  · exact fun t h a1 => (op_count xs 10 R0.rh R0.cl a1).wk (Iv.in (t0 t h)) (fun m _ => Iv.out m)
  · exact fun t h a1 => (op_length xs 9 R0.rh R0.cl a1).wk (Iv.in (t0 t h)) (fun m _ => Iv.out m)
  · exact fun t h a1 a2 a3 => (op_told xs 9 R0.rh R0.cl a1 a2 a3).wk (Iv.in (t0 t h)) (fun m _ => Iv.out m)
  · exact fun t h a1 a2 => (op_set xs 9 R0.rh R0.cl R0.w a1 a2).wk (Iv.in (t0 t h)) (fun m _ => Iv.out m)
  · exact fun t h a1 => (op_get xs 9 R0.rh R0.cl a1).wk (Iv.in (t0 t h)) (fun m _ => Iv.out m)
  · intro t h a1 m hm
    have hz := Iv.in (t0 t h) m hm
    refine yC.mono (Nat.le_refl _) ?_ (c242n xs 10 m a1 hz.2.2.2.1)
    rintro r m1 ⟨rfl, e⟩
    rw [e]
    refine ⟨-1, rfl, yC.mono (Nat.le_refl _) ?_ (c394n xs 10 m a1 hz.2.2.2.2)⟩
    rintro r2 m2 ⟨rfl, -⟩
    exact ⟨rfl, Iv.out _⟩
