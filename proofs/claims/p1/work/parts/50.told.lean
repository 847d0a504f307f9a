/-! TOLD: laid by wip/gen/small5.py -/
def tld (w a b c d : Int32) : Int32 := if w = 0 then a else if w = 1 then b else if w = 2 then c else if w = 3 then d else 0
set_option maxRecDepth 20000 in
/-- CodeMaker.told of an instruction that is -/
theorem c238a (xs : List Int32) (d : Nat) (m : yM) (i u : Nat) (hi : i < u) (hu : u ≤ 16) (hn : m.1 35 7 = nI u) (ha : ¬ m.1 0 12 = 0) (s L q : Nat) (hs : m.1 40 i = nI s) (hl : (if i + 1 < u then m.1 40 (i + 1) else m.1 35 6) - m.1 40 i = nI L) (hq : q < L) (hz : s + L ≤ 3000) (w : Int32) : yC (xg xs) (d + 1) 238 [.ref 0, .int (nI i), .int (nI q), .int w] m (fun r m' => r = some (.int (tld w (m.1 36 (s + q)) (m.1 37 (s + q)) (m.1 38 (s + q)) (m.1 39 (s + q)))) ∧ m' = m) := by
  have e3 : (nI i).toNatClampNeg = i := nI_clamp (by omega)
  have e4 : m.1 40 (nI i).toNatClampNeg + nI q = nI (s + q) := by rw [e3, hs, nI_add]
  have e5 : (m.1 40 (nI i).toNatClampNeg + nI q).toNatClampNeg = s + q := by rw [e4]; exact nI_clamp (by omega)
  refine y_st rfl rfl rfl rfl rfl (fun _ _ => rfl) ?_
  refine y_st rfl rfl rfl rfl rfl (fun _ _ => rfl) ?_
  show yP (xg xs) (d + 1) 238 2 [(0, .ref 0), (1, .int (nI i)), (2, .int (nI q)), (3, .int w)] [.int (nI i), .ref 0] m _
  refine y_call rfl rfl rfl rfl rfl (Nat.le_of_ble_eq_true rfl) (Nat.le_of_ble_eq_true rfl) rfl (by decide) (c237 xs d m (nI i)) (fun v1 m1 q1 => ?_)
  obtain ⟨rfl, e1⟩ := q1; rw [e1]; clear e1
  show yP (xg xs) (d + 1) 238 5 [(0, .ref 0), (1, .int (nI i)), (2, .int (nI q)), (3, .int w)] [.int (if (¬ m.1 0 12 = 0 ∧ 0 ≤ (nI i) ∧ (nI i) < m.1 35 7) then 1 else 0)] m _
  refine y_zeq (t := 24) rfl rfl rfl (fun h5 => ?_) (fun h5 => ?_)
  · exact absurd ⟨ha, nI_pos' (by omega), by rw [hn]; exact nI_lt hi (by omega)⟩ (y_iff h5)
  · refine y_st rfl rfl rfl rfl rfl (fun _ _ => rfl) ?_
    show yP (xg xs) (d + 1) 238 9 [(0, .ref 0), (1, .int (nI i)), (2, .int (nI q)), (3, .int w)] [.int (nI q)] m _
    refine y_zlt (t := 24) rfl rfl rfl (fun h9 => ?_) (fun h9 => ?_)
    · exact absurd h9 (nI_pos (by omega))
    · refine y_st rfl rfl rfl rfl rfl (fun _ _ => rfl) ?_
      refine y_st rfl rfl rfl rfl rfl (fun _ _ => rfl) ?_
      refine y_gf rfl rfl rfl rfl rfl ?_
      refine y_st rfl rfl rfl rfl rfl (fun _ _ => rfl) ?_
      show yP (xg xs) (d + 1) 238 18 [(0, .ref 0), (1, .int (nI i)), (2, .int (nI q)), (3, .int w)] [.int (nI i), .ref 35, .int (nI q)] m _
      refine y_call rfl rfl rfl rfl rfl (Nat.le_of_ble_eq_true rfl) (Nat.le_of_ble_eq_true rfl) rfl (by decide) (c220 xs d m i u hi hu hn) (fun v2 m2 q2 => ?_)
      obtain ⟨rfl, e2⟩ := q2; rw [e2]; clear e2
      show yP (xg xs) (d + 1) 238 21 [(0, .ref 0), (1, .int (nI i)), (2, .int (nI q)), (3, .int w)] [.int ((if i + 1 < u then m.1 40 (i + 1) else m.1 35 6) - m.1 40 i), .int (nI q)] m _
      refine y_ilt (t := 26) rfl rfl rfl (fun h21 => ?_) (fun h21 => ?_)
      · refine y_st rfl rfl rfl rfl rfl (fun _ _ => rfl) ?_
        refine y_gf rfl rfl rfl rfl rfl ?_
        refine y_gf rfl rfl rfl rfl rfl ?_
        refine y_st rfl rfl rfl rfl rfl (fun _ _ => rfl) ?_
        show yP (xg xs) (d + 1) 238 34 [(0, .ref 0), (1, .int (nI i)), (2, .int (nI q)), (3, .int w)] [.int (nI i), .ref 40] m _
        refine y_iald rfl rfl rfl (x_in_nI (by omega) (by decide)) ?_
        refine y_st rfl rfl rfl rfl rfl (fun _ _ => rfl) ?_
        refine y_st rfl rfl rfl rfl rfl (fun _ _ => rfl) ?_
        refine y_st rfl rfl rfl rfl rfl (fun _ _ => rfl) ?_
        refine y_st rfl rfl rfl rfl rfl (fun _ _ => rfl) ?_
        show yP (xg xs) (d + 1) 238 40 [(4, .int ((m.1 40 ((nI i).toNatClampNeg)) + (nI q))), (0, .ref 0), (1, .int (nI i)), (2, .int (nI q)), (3, .int w)] [.int w] m _
        by_cases h40_0 : w = (0 : Int32)
        · refine y_tsw (t := 72) rfl rfl (by rw [h40_0]; rfl) ?_
          refine y_st rfl rfl rfl rfl rfl (fun _ _ => rfl) ?_
          refine y_gf rfl rfl rfl rfl rfl ?_
          refine y_gf rfl rfl rfl rfl rfl ?_
          refine y_st rfl rfl rfl rfl rfl (fun _ _ => rfl) ?_
          show yP (xg xs) (d + 1) 238 81 [(4, .int ((m.1 40 ((nI i).toNatClampNeg)) + (nI q))), (0, .ref 0), (1, .int (nI i)), (2, .int (nI q)), (3, .int w)] [.int ((m.1 40 ((nI i).toNatClampNeg)) + (nI q)), .ref 36] m _
          refine y_iald rfl rfl rfl (by rw [e4]; exact x_in_nI (by omega) (by decide)) ?_
          show yP (xg xs) (d + 1) 238 82 [(4, .int ((m.1 40 ((nI i).toNatClampNeg)) + (nI q))), (0, .ref 0), (1, .int (nI i)), (2, .int (nI q)), (3, .int w)] [.int (m.1 36 (((m.1 40 ((nI i).toNatClampNeg)) + (nI q)).toNatClampNeg))] m _
          exact y_iret rfl rfl rfl (by refine ⟨congrArg (fun z => some (Value.int z)) ?_, rfl⟩; (try rw [e5]); unfold tld; grind)
        by_cases h40_1 : w = (1 : Int32)
        · refine y_tsw (t := 83) rfl rfl (by rw [h40_1]; rfl) ?_
          refine y_st rfl rfl rfl rfl rfl (fun _ _ => rfl) ?_
          refine y_gf rfl rfl rfl rfl rfl ?_
          refine y_gf rfl rfl rfl rfl rfl ?_
          refine y_st rfl rfl rfl rfl rfl (fun _ _ => rfl) ?_
          show yP (xg xs) (d + 1) 238 92 [(4, .int ((m.1 40 ((nI i).toNatClampNeg)) + (nI q))), (0, .ref 0), (1, .int (nI i)), (2, .int (nI q)), (3, .int w)] [.int ((m.1 40 ((nI i).toNatClampNeg)) + (nI q)), .ref 37] m _
          refine y_iald rfl rfl rfl (by rw [e4]; exact x_in_nI (by omega) (by decide)) ?_
          show yP (xg xs) (d + 1) 238 93 [(4, .int ((m.1 40 ((nI i).toNatClampNeg)) + (nI q))), (0, .ref 0), (1, .int (nI i)), (2, .int (nI q)), (3, .int w)] [.int (m.1 37 (((m.1 40 ((nI i).toNatClampNeg)) + (nI q)).toNatClampNeg))] m _
          exact y_iret rfl rfl rfl (by refine ⟨congrArg (fun z => some (Value.int z)) ?_, rfl⟩; (try rw [e5]); unfold tld; grind)
        by_cases h40_2 : w = (2 : Int32)
        · refine y_tsw (t := 94) rfl rfl (by rw [h40_2]; rfl) ?_
          refine y_st rfl rfl rfl rfl rfl (fun _ _ => rfl) ?_
          refine y_gf rfl rfl rfl rfl rfl ?_
          refine y_gf rfl rfl rfl rfl rfl ?_
          refine y_st rfl rfl rfl rfl rfl (fun _ _ => rfl) ?_
          show yP (xg xs) (d + 1) 238 103 [(4, .int ((m.1 40 ((nI i).toNatClampNeg)) + (nI q))), (0, .ref 0), (1, .int (nI i)), (2, .int (nI q)), (3, .int w)] [.int ((m.1 40 ((nI i).toNatClampNeg)) + (nI q)), .ref 38] m _
          refine y_iald rfl rfl rfl (by rw [e4]; exact x_in_nI (by omega) (by decide)) ?_
          show yP (xg xs) (d + 1) 238 104 [(4, .int ((m.1 40 ((nI i).toNatClampNeg)) + (nI q))), (0, .ref 0), (1, .int (nI i)), (2, .int (nI q)), (3, .int w)] [.int (m.1 38 (((m.1 40 ((nI i).toNatClampNeg)) + (nI q)).toNatClampNeg))] m _
          exact y_iret rfl rfl rfl (by refine ⟨congrArg (fun z => some (Value.int z)) ?_, rfl⟩; (try rw [e5]); unfold tld; grind)
        by_cases h40_3 : w = (3 : Int32)
        · refine y_tsw (t := 105) rfl rfl (by rw [h40_3]; rfl) ?_
          refine y_st rfl rfl rfl rfl rfl (fun _ _ => rfl) ?_
          refine y_gf rfl rfl rfl rfl rfl ?_
          refine y_gf rfl rfl rfl rfl rfl ?_
          refine y_st rfl rfl rfl rfl rfl (fun _ _ => rfl) ?_
          show yP (xg xs) (d + 1) 238 114 [(4, .int ((m.1 40 ((nI i).toNatClampNeg)) + (nI q))), (0, .ref 0), (1, .int (nI i)), (2, .int (nI q)), (3, .int w)] [.int ((m.1 40 ((nI i).toNatClampNeg)) + (nI q)), .ref 39] m _
          refine y_iald rfl rfl rfl (by rw [e4]; exact x_in_nI (by omega) (by decide)) ?_
          show yP (xg xs) (d + 1) 238 115 [(4, .int ((m.1 40 ((nI i).toNatClampNeg)) + (nI q))), (0, .ref 0), (1, .int (nI i)), (2, .int (nI q)), (3, .int w)] [.int (m.1 39 (((m.1 40 ((nI i).toNatClampNeg)) + (nI q)).toNatClampNeg))] m _
          exact y_iret rfl rfl rfl (by refine ⟨congrArg (fun z => some (Value.int z)) ?_, rfl⟩; (try rw [e5]); unfold tld; grind)
        refine y_tsw (t := 116) rfl rfl ((if_pos (by have g0 := ne_lit (0 : Int32) 0 rfl h40_0; have g1 := ne_lit (1 : Int32) 1 rfl h40_1; have g2 := ne_lit (2 : Int32) 2 rfl h40_2; have g3 := ne_lit (3 : Int32) 3 rfl h40_3; omega)).trans rfl) ?_
        refine y_st rfl rfl rfl rfl rfl (fun _ _ => rfl) ?_
        show yP (xg xs) (d + 1) 238 117 [(4, .int ((m.1 40 ((nI i).toNatClampNeg)) + (nI q))), (0, .ref 0), (1, .int (nI i)), (2, .int (nI q)), (3, .int w)] [.int (0 : Int32)] m _
        exact y_iret rfl rfl rfl (by refine ⟨congrArg (fun z => some (Value.int z)) ?_, rfl⟩; (try rw [e5]); unfold tld; grind)
      · exact absurd (by rw [hl]; exact nI_lt hq (by omega)) h21
set_option maxRecDepth 20000 in
/-- CodeMaker.told of no unit -/
theorem c238b (xs : List Int32) (d : Nat) (m : yM) (c q w : Int32) (hc : ¬ (¬ m.1 0 12 = 0 ∧ 0 ≤ c ∧ c < m.1 35 7)) : yC (xg xs) (d + 1) 238 [.ref 0, .int c, .int q, .int w] m (fun r m' => r = some (.int 0) ∧ m' = m) := by
  refine y_st rfl rfl rfl rfl rfl (fun _ _ => rfl) ?_
  refine y_st rfl rfl rfl rfl rfl (fun _ _ => rfl) ?_
  show yP (xg xs) (d + 1) 238 2 [(0, .ref 0), (1, .int c), (2, .int q), (3, .int w)] [.int c, .ref 0] m _
  refine y_call rfl rfl rfl rfl rfl (Nat.le_of_ble_eq_true rfl) (Nat.le_of_ble_eq_true rfl) rfl (by decide) (c237 xs d m c) (fun v1 m1 q1 => ?_)
  obtain ⟨rfl, e1⟩ := q1; rw [e1]; clear e1
  show yP (xg xs) (d + 1) 238 5 [(0, .ref 0), (1, .int c), (2, .int q), (3, .int w)] [.int (if (¬ m.1 0 12 = 0 ∧ 0 ≤ c ∧ c < m.1 35 7) then 1 else 0)] m _
  refine y_zeq (t := 24) rfl rfl rfl (fun h5 => ?_) (fun h5 => ?_)
  · refine y_st rfl rfl rfl rfl rfl (fun _ _ => rfl) ?_
    show yP (xg xs) (d + 1) 238 25 [(0, .ref 0), (1, .int c), (2, .int q), (3, .int w)] [.int (0 : Int32)] m _
    exact y_iret rfl rfl rfl (⟨rfl, rfl⟩)
  · exact absurd (y_ift h5) hc
set_option maxRecDepth 20000 in
/-- CodeMaker.told of no instruction -/
theorem c238c (xs : List Int32) (d : Nat) (m : yM) (i u : Nat) (hi : i < u) (hu : u ≤ 16) (hn : m.1 35 7 = nI u) (ha : ¬ m.1 0 12 = 0) (q w : Int32) (hq : q < 0 ∨ ¬ q < (if i + 1 < u then m.1 40 (i + 1) else m.1 35 6) - m.1 40 i) : yC (xg xs) (d + 1) 238 [.ref 0, .int (nI i), .int q, .int w] m (fun r m' => r = some (.int 0) ∧ m' = m) := by
  refine y_st rfl rfl rfl rfl rfl (fun _ _ => rfl) ?_
  refine y_st rfl rfl rfl rfl rfl (fun _ _ => rfl) ?_
  show yP (xg xs) (d + 1) 238 2 [(0, .ref 0), (1, .int (nI i)), (2, .int q), (3, .int w)] [.int (nI i), .ref 0] m _
  refine y_call rfl rfl rfl rfl rfl (Nat.le_of_ble_eq_true rfl) (Nat.le_of_ble_eq_true rfl) rfl (by decide) (c237 xs d m (nI i)) (fun v1 m1 q1 => ?_)
  obtain ⟨rfl, e1⟩ := q1; rw [e1]; clear e1
  show yP (xg xs) (d + 1) 238 5 [(0, .ref 0), (1, .int (nI i)), (2, .int q), (3, .int w)] [.int (if (¬ m.1 0 12 = 0 ∧ 0 ≤ (nI i) ∧ (nI i) < m.1 35 7) then 1 else 0)] m _
  refine y_zeq (t := 24) rfl rfl rfl (fun h5 => ?_) (fun h5 => ?_)
  · exact absurd ⟨ha, nI_pos' (by omega), by rw [hn]; exact nI_lt hi (by omega)⟩ (y_iff h5)
  · refine y_st rfl rfl rfl rfl rfl (fun _ _ => rfl) ?_
    show yP (xg xs) (d + 1) 238 9 [(0, .ref 0), (1, .int (nI i)), (2, .int q), (3, .int w)] [.int q] m _
    refine y_zlt (t := 24) rfl rfl rfl (fun h9 => ?_) (fun h9 => ?_)
    · refine y_st rfl rfl rfl rfl rfl (fun _ _ => rfl) ?_
      show yP (xg xs) (d + 1) 238 25 [(0, .ref 0), (1, .int (nI i)), (2, .int q), (3, .int w)] [.int (0 : Int32)] m _
      exact y_iret rfl rfl rfl (⟨rfl, rfl⟩)
    · refine y_st rfl rfl rfl rfl rfl (fun _ _ => rfl) ?_
      refine y_st rfl rfl rfl rfl rfl (fun _ _ => rfl) ?_
      refine y_gf rfl rfl rfl rfl rfl ?_
      refine y_st rfl rfl rfl rfl rfl (fun _ _ => rfl) ?_
      show yP (xg xs) (d + 1) 238 18 [(0, .ref 0), (1, .int (nI i)), (2, .int q), (3, .int w)] [.int (nI i), .ref 35, .int q] m _
      refine y_call rfl rfl rfl rfl rfl (Nat.le_of_ble_eq_true rfl) (Nat.le_of_ble_eq_true rfl) rfl (by decide) (c220 xs d m i u hi hu hn) (fun v2 m2 q2 => ?_)
      obtain ⟨rfl, e2⟩ := q2; rw [e2]; clear e2
      show yP (xg xs) (d + 1) 238 21 [(0, .ref 0), (1, .int (nI i)), (2, .int q), (3, .int w)] [.int ((if i + 1 < u then m.1 40 (i + 1) else m.1 35 6) - m.1 40 i), .int q] m _
      refine y_ilt (t := 26) rfl rfl rfl (fun h21 => ?_) (fun h21 => ?_)
      · exact absurd hq (by rintro (z | z); exact h9 z; exact z h21)
      · refine y_st rfl rfl rfl rfl rfl (fun _ _ => rfl) ?_
        show yP (xg xs) (d + 1) 238 25 [(0, .ref 0), (1, .int (nI i)), (2, .int q), (3, .int w)] [.int (0 : Int32)] m _
        exact y_iret rfl rfl rfl (⟨rfl, rfl⟩)
set_option maxRecDepth 20000 in
/-- reference: told of an instruction that is -/
theorem c405a (xs : List Int32) (d : Nat) (m : yM) (i u : Nat) (hi : i < u) (hu : u ≤ 16) (hn : m.1 58 23 = nI u) (ha : ¬ m.1 58 61 = 0) (s L q : Nat) (hs : m.1 93 i = nI s) (hl : m.1 93 (i + 1) - m.1 93 i = nI L) (hq : q < L) (hz : s + L ≤ 3000) (w : Int32) : yC (xg xs) d 405 [.ref 58, .int (nI i), .int (nI q), .int w] m (fun r m' => r = some (.int (tld w (m.1 89 (s + q)) (m.1 90 (s + q)) (m.1 91 (s + q)) (m.1 92 (s + q)))) ∧ m' = y_si m 58 0 0) := by
  have e1 : nI i + 1 = nI (i + 1) := nI_1 i
  have e2 : (nI i + 1).toNatClampNeg = i + 1 := by rw [e1]; exact nI_clamp (by omega)
  have e3 : (nI i).toNatClampNeg = i := nI_clamp (by omega)
  have e4 : m.1 93 (nI i).toNatClampNeg + nI q = nI (s + q) := by rw [e3, hs, nI_add]
  have e5 : (m.1 93 (nI i).toNatClampNeg + nI q).toNatClampNeg = s + q := by rw [e4]; exact nI_clamp (by omega)
  refine y_st rfl rfl rfl rfl rfl (fun _ _ => rfl) ?_
  refine y_st rfl rfl rfl rfl rfl (fun _ _ => rfl) ?_
  refine y_pfi rfl rfl rfl rfl rfl (x_fit_i _) ?_
  show yP (xg xs) d 405 5 [(0, .ref 58), (1, .int (nI i)), (2, .int (nI q)), (3, .int w)] [] (y_si m 58 0 (0 : Int32)) _
  refine y_st rfl rfl rfl rfl rfl (fun _ _ => rfl) ?_
  refine y_gf rfl rfl rfl rfl rfl ?_
  show yP (xg xs) d 405 9 [(0, .ref 58), (1, .int (nI i)), (2, .int (nI q)), (3, .int w)] [.int (m.1 58 61)] (y_si m 58 0 (0 : Int32)) _
  refine y_zeq (t := 47) rfl rfl rfl (fun h9 => ?_) (fun h9 => ?_)
  · exact absurd h9 ha
  · refine y_st rfl rfl rfl rfl rfl (fun _ _ => rfl) ?_
    show yP (xg xs) d 405 13 [(0, .ref 58), (1, .int (nI i)), (2, .int (nI q)), (3, .int w)] [.int (nI i)] (y_si m 58 0 (0 : Int32)) _
    refine y_zlt (t := 47) rfl rfl rfl (fun h13 => ?_) (fun h13 => ?_)
    · exact absurd h13 (nI_pos (by omega))
    · refine y_st rfl rfl rfl rfl rfl (fun _ _ => rfl) ?_
      refine y_st rfl rfl rfl rfl rfl (fun _ _ => rfl) ?_
      refine y_gf rfl rfl rfl rfl rfl ?_
      show yP (xg xs) d 405 21 [(0, .ref 58), (1, .int (nI i)), (2, .int (nI q)), (3, .int w)] [.int (m.1 58 23), .int (nI i)] (y_si m 58 0 (0 : Int32)) _
      refine y_ige (t := 47) rfl rfl rfl (fun h21 => ?_) (fun h21 => ?_)
      · exact absurd h21 (by rw [hn]; exact nI_ge hi (by omega))
      · refine y_st rfl rfl rfl rfl rfl (fun _ _ => rfl) ?_
        show yP (xg xs) d 405 25 [(0, .ref 58), (1, .int (nI i)), (2, .int (nI q)), (3, .int w)] [.int (nI q)] (y_si m 58 0 (0 : Int32)) _
        refine y_zlt (t := 47) rfl rfl rfl (fun h25 => ?_) (fun h25 => ?_)
        · exact absurd h25 (nI_pos (by omega))
        · refine y_st rfl rfl rfl rfl rfl (fun _ _ => rfl) ?_
          refine y_st rfl rfl rfl rfl rfl (fun _ _ => rfl) ?_
          refine y_gf rfl rfl rfl rfl rfl ?_
          refine y_st rfl rfl rfl rfl rfl (fun _ _ => rfl) ?_
          refine y_st rfl rfl rfl rfl rfl (fun _ _ => rfl) ?_
          refine y_st rfl rfl rfl rfl rfl (fun _ _ => rfl) ?_
          show yP (xg xs) d 405 36 [(0, .ref 58), (1, .int (nI i)), (2, .int (nI q)), (3, .int w)] [.int ((nI i) + (1 : Int32)), .ref 93, .int (nI q)] (y_si m 58 0 (0 : Int32)) _
          refine y_iald rfl rfl rfl (by rw [e1]; exact x_in_nI (by omega) (by decide)) ?_
          refine y_st rfl rfl rfl rfl rfl (fun _ _ => rfl) ?_
          refine y_gf rfl rfl rfl rfl rfl ?_
          refine y_st rfl rfl rfl rfl rfl (fun _ _ => rfl) ?_
          show yP (xg xs) d 405 42 [(0, .ref 58), (1, .int (nI i)), (2, .int (nI q)), (3, .int w)] [.int (nI i), .ref 93, .int (m.1 93 (((nI i) + (1 : Int32)).toNatClampNeg)), .int (nI q)] (y_si m 58 0 (0 : Int32)) _
          refine y_iald rfl rfl rfl (x_in_nI (by omega) (by decide)) ?_
          refine y_st rfl rfl rfl rfl rfl (fun _ _ => rfl) ?_
          show yP (xg xs) d 405 44 [(0, .ref 58), (1, .int (nI i)), (2, .int (nI q)), (3, .int w)] [.int ((m.1 93 (((nI i) + (1 : Int32)).toNatClampNeg)) - (m.1 93 ((nI i).toNatClampNeg))), .int (nI q)] (y_si m 58 0 (0 : Int32)) _
          refine y_ilt (t := 49) rfl rfl rfl (fun h44 => ?_) (fun h44 => ?_)
          · refine y_st rfl rfl rfl rfl rfl (fun _ _ => rfl) ?_
            refine y_gf rfl rfl rfl rfl rfl ?_
            refine y_st rfl rfl rfl rfl rfl (fun _ _ => rfl) ?_
            show yP (xg xs) d 405 54 [(0, .ref 58), (1, .int (nI i)), (2, .int (nI q)), (3, .int w)] [.int (nI i), .ref 93] (y_si m 58 0 (0 : Int32)) _
            refine y_iald rfl rfl rfl (x_in_nI (by omega) (by decide)) ?_
            refine y_st rfl rfl rfl rfl rfl (fun _ _ => rfl) ?_
            refine y_st rfl rfl rfl rfl rfl (fun _ _ => rfl) ?_
            refine y_st rfl rfl rfl rfl rfl (fun _ _ => rfl) ?_
            refine y_st rfl rfl rfl rfl rfl (fun _ _ => rfl) ?_
            show yP (xg xs) d 405 60 [(4, .int ((m.1 93 ((nI i).toNatClampNeg)) + (nI q))), (0, .ref 58), (1, .int (nI i)), (2, .int (nI q)), (3, .int w)] [.int w] (y_si m 58 0 (0 : Int32)) _
            refine y_zne (t := 73) rfl rfl rfl (fun h60 => ?_) (fun h60 => ?_)
            · refine y_st rfl rfl rfl rfl rfl (fun _ _ => rfl) ?_
              refine y_st rfl rfl rfl rfl rfl (fun _ _ => rfl) ?_
              show yP (xg xs) d 405 75 [(4, .int ((m.1 93 ((nI i).toNatClampNeg)) + (nI q))), (0, .ref 58), (1, .int (nI i)), (2, .int (nI q)), (3, .int w)] [.int (1 : Int32), .int w] (y_si m 58 0 (0 : Int32)) _
              refine y_ine (t := 88) rfl rfl rfl (fun h75 => ?_) (fun h75 => ?_)
              · refine y_st rfl rfl rfl rfl rfl (fun _ _ => rfl) ?_
                refine y_st rfl rfl rfl rfl rfl (fun _ _ => rfl) ?_
                show yP (xg xs) d 405 90 [(4, .int ((m.1 93 ((nI i).toNatClampNeg)) + (nI q))), (0, .ref 58), (1, .int (nI i)), (2, .int (nI q)), (3, .int w)] [.int (2 : Int32), .int w] (y_si m 58 0 (0 : Int32)) _
                refine y_ine (t := 103) rfl rfl rfl (fun h90 => ?_) (fun h90 => ?_)
                · refine y_st rfl rfl rfl rfl rfl (fun _ _ => rfl) ?_
                  refine y_st rfl rfl rfl rfl rfl (fun _ _ => rfl) ?_
                  show yP (xg xs) d 405 105 [(4, .int ((m.1 93 ((nI i).toNatClampNeg)) + (nI q))), (0, .ref 58), (1, .int (nI i)), (2, .int (nI q)), (3, .int w)] [.int (3 : Int32), .int w] (y_si m 58 0 (0 : Int32)) _
                  refine y_ine (t := 118) rfl rfl rfl (fun h105 => ?_) (fun h105 => ?_)
                  · refine y_st rfl rfl rfl rfl rfl (fun _ _ => rfl) ?_
                    show yP (xg xs) d 405 119 [(4, .int ((m.1 93 ((nI i).toNatClampNeg)) + (nI q))), (0, .ref 58), (1, .int (nI i)), (2, .int (nI q)), (3, .int w)] [.int (0 : Int32)] (y_si m 58 0 (0 : Int32)) _
                    exact y_iret rfl rfl rfl (by refine ⟨congrArg (fun z => some (Value.int z)) ?_, rfl⟩; (try rw [e5]); unfold tld; grind)
                  · refine y_st rfl rfl rfl rfl rfl (fun _ _ => rfl) ?_
                    refine y_gf rfl rfl rfl rfl rfl ?_
                    refine y_st rfl rfl rfl rfl rfl (fun _ _ => rfl) ?_
                    show yP (xg xs) d 405 114 [(4, .int ((m.1 93 ((nI i).toNatClampNeg)) + (nI q))), (0, .ref 58), (1, .int (nI i)), (2, .int (nI q)), (3, .int w)] [.int ((m.1 93 ((nI i).toNatClampNeg)) + (nI q)), .ref 92] (y_si m 58 0 (0 : Int32)) _
                    refine y_iald rfl rfl rfl (by rw [e4]; exact x_in_nI (by omega) (by decide)) ?_
                    refine y_st rfl rfl rfl rfl rfl (fun _ _ => rfl) ?_
                    show yP (xg xs) d 405 119 [(4, .int ((m.1 93 ((nI i).toNatClampNeg)) + (nI q))), (0, .ref 58), (1, .int (nI i)), (2, .int (nI q)), (3, .int w)] [.int (m.1 92 (((m.1 93 ((nI i).toNatClampNeg)) + (nI q)).toNatClampNeg))] (y_si m 58 0 (0 : Int32)) _
                    exact y_iret rfl rfl rfl (by refine ⟨congrArg (fun z => some (Value.int z)) ?_, rfl⟩; (try rw [e5]); unfold tld; grind)
                · refine y_st rfl rfl rfl rfl rfl (fun _ _ => rfl) ?_
                  refine y_gf rfl rfl rfl rfl rfl ?_
                  refine y_st rfl rfl rfl rfl rfl (fun _ _ => rfl) ?_
                  show yP (xg xs) d 405 99 [(4, .int ((m.1 93 ((nI i).toNatClampNeg)) + (nI q))), (0, .ref 58), (1, .int (nI i)), (2, .int (nI q)), (3, .int w)] [.int ((m.1 93 ((nI i).toNatClampNeg)) + (nI q)), .ref 91] (y_si m 58 0 (0 : Int32)) _
                  refine y_iald rfl rfl rfl (by rw [e4]; exact x_in_nI (by omega) (by decide)) ?_
                  refine y_st rfl rfl rfl rfl rfl (fun _ _ => rfl) ?_
                  show yP (xg xs) d 405 119 [(4, .int ((m.1 93 ((nI i).toNatClampNeg)) + (nI q))), (0, .ref 58), (1, .int (nI i)), (2, .int (nI q)), (3, .int w)] [.int (m.1 91 (((m.1 93 ((nI i).toNatClampNeg)) + (nI q)).toNatClampNeg))] (y_si m 58 0 (0 : Int32)) _
                  exact y_iret rfl rfl rfl (by refine ⟨congrArg (fun z => some (Value.int z)) ?_, rfl⟩; (try rw [e5]); unfold tld; grind)
              · refine y_st rfl rfl rfl rfl rfl (fun _ _ => rfl) ?_
                refine y_gf rfl rfl rfl rfl rfl ?_
                refine y_st rfl rfl rfl rfl rfl (fun _ _ => rfl) ?_
                show yP (xg xs) d 405 84 [(4, .int ((m.1 93 ((nI i).toNatClampNeg)) + (nI q))), (0, .ref 58), (1, .int (nI i)), (2, .int (nI q)), (3, .int w)] [.int ((m.1 93 ((nI i).toNatClampNeg)) + (nI q)), .ref 90] (y_si m 58 0 (0 : Int32)) _
                refine y_iald rfl rfl rfl (by rw [e4]; exact x_in_nI (by omega) (by decide)) ?_
                refine y_st rfl rfl rfl rfl rfl (fun _ _ => rfl) ?_
                show yP (xg xs) d 405 119 [(4, .int ((m.1 93 ((nI i).toNatClampNeg)) + (nI q))), (0, .ref 58), (1, .int (nI i)), (2, .int (nI q)), (3, .int w)] [.int (m.1 90 (((m.1 93 ((nI i).toNatClampNeg)) + (nI q)).toNatClampNeg))] (y_si m 58 0 (0 : Int32)) _
                exact y_iret rfl rfl rfl (by refine ⟨congrArg (fun z => some (Value.int z)) ?_, rfl⟩; (try rw [e5]); unfold tld; grind)
            · refine y_st rfl rfl rfl rfl rfl (fun _ _ => rfl) ?_
              refine y_gf rfl rfl rfl rfl rfl ?_
              refine y_st rfl rfl rfl rfl rfl (fun _ _ => rfl) ?_
              show yP (xg xs) d 405 69 [(4, .int ((m.1 93 ((nI i).toNatClampNeg)) + (nI q))), (0, .ref 58), (1, .int (nI i)), (2, .int (nI q)), (3, .int w)] [.int ((m.1 93 ((nI i).toNatClampNeg)) + (nI q)), .ref 89] (y_si m 58 0 (0 : Int32)) _
              refine y_iald rfl rfl rfl (by rw [e4]; exact x_in_nI (by omega) (by decide)) ?_
              refine y_st rfl rfl rfl rfl rfl (fun _ _ => rfl) ?_
              show yP (xg xs) d 405 119 [(4, .int ((m.1 93 ((nI i).toNatClampNeg)) + (nI q))), (0, .ref 58), (1, .int (nI i)), (2, .int (nI q)), (3, .int w)] [.int (m.1 89 (((m.1 93 ((nI i).toNatClampNeg)) + (nI q)).toNatClampNeg))] (y_si m 58 0 (0 : Int32)) _
              exact y_iret rfl rfl rfl (by refine ⟨congrArg (fun z => some (Value.int z)) ?_, rfl⟩; (try rw [e5]); unfold tld; grind)
          · exact absurd (by rw [e2, e3, hl]; exact nI_lt hq (by omega)) h44
set_option maxRecDepth 20000 in
/-- reference: told of no unit -/
theorem c405b (xs : List Int32) (d : Nat) (m : yM) (c q w : Int32) (hc : ¬ (¬ m.1 58 61 = 0 ∧ 0 ≤ c ∧ c < m.1 58 23)) : yC (xg xs) d 405 [.ref 58, .int c, .int q, .int w] m (fun r m' => r = some (.int 0) ∧ m' = y_si m 58 0 0) := by
  refine y_st rfl rfl rfl rfl rfl (fun _ _ => rfl) ?_
  refine y_st rfl rfl rfl rfl rfl (fun _ _ => rfl) ?_
  refine y_pfi rfl rfl rfl rfl rfl (x_fit_i _) ?_
  show yP (xg xs) d 405 5 [(0, .ref 58), (1, .int c), (2, .int q), (3, .int w)] [] (y_si m 58 0 (0 : Int32)) _
  refine y_st rfl rfl rfl rfl rfl (fun _ _ => rfl) ?_
  refine y_gf rfl rfl rfl rfl rfl ?_
  show yP (xg xs) d 405 9 [(0, .ref 58), (1, .int c), (2, .int q), (3, .int w)] [.int (m.1 58 61)] (y_si m 58 0 (0 : Int32)) _
  refine y_zeq (t := 47) rfl rfl rfl (fun h9 => ?_) (fun h9 => ?_)
  · refine y_st rfl rfl rfl rfl rfl (fun _ _ => rfl) ?_
    show yP (xg xs) d 405 48 [(0, .ref 58), (1, .int c), (2, .int q), (3, .int w)] [.int (0 : Int32)] (y_si m 58 0 (0 : Int32)) _
    exact y_iret rfl rfl rfl (⟨rfl, rfl⟩)
  · refine y_st rfl rfl rfl rfl rfl (fun _ _ => rfl) ?_
    show yP (xg xs) d 405 13 [(0, .ref 58), (1, .int c), (2, .int q), (3, .int w)] [.int c] (y_si m 58 0 (0 : Int32)) _
    refine y_zlt (t := 47) rfl rfl rfl (fun h13 => ?_) (fun h13 => ?_)
    · refine y_st rfl rfl rfl rfl rfl (fun _ _ => rfl) ?_
      show yP (xg xs) d 405 48 [(0, .ref 58), (1, .int c), (2, .int q), (3, .int w)] [.int (0 : Int32)] (y_si m 58 0 (0 : Int32)) _
      exact y_iret rfl rfl rfl (⟨rfl, rfl⟩)
    · refine y_st rfl rfl rfl rfl rfl (fun _ _ => rfl) ?_
      refine y_st rfl rfl rfl rfl rfl (fun _ _ => rfl) ?_
      refine y_gf rfl rfl rfl rfl rfl ?_
      show yP (xg xs) d 405 21 [(0, .ref 58), (1, .int c), (2, .int q), (3, .int w)] [.int (m.1 58 23), .int c] (y_si m 58 0 (0 : Int32)) _
      refine y_ige (t := 47) rfl rfl rfl (fun h21 => ?_) (fun h21 => ?_)
      · refine y_st rfl rfl rfl rfl rfl (fun _ _ => rfl) ?_
        show yP (xg xs) d 405 48 [(0, .ref 58), (1, .int c), (2, .int q), (3, .int w)] [.int (0 : Int32)] (y_si m 58 0 (0 : Int32)) _
        exact y_iret rfl rfl rfl (⟨rfl, rfl⟩)
      · exact absurd ⟨h9, Int32.not_lt.mp h13, Int32.not_le.mp h21⟩ hc
set_option maxRecDepth 20000 in
/-- reference: told of no instruction -/
theorem c405c (xs : List Int32) (d : Nat) (m : yM) (i u : Nat) (hi : i < u) (hu : u ≤ 16) (hn : m.1 58 23 = nI u) (ha : ¬ m.1 58 61 = 0) (q w : Int32) (hq : q < 0 ∨ ¬ q < m.1 93 (i + 1) - m.1 93 i) : yC (xg xs) d 405 [.ref 58, .int (nI i), .int q, .int w] m (fun r m' => r = some (.int 0) ∧ m' = y_si m 58 0 0) := by
  have e1 : nI i + 1 = nI (i + 1) := nI_1 i
  have e2 : (nI i + 1).toNatClampNeg = i + 1 := by rw [e1]; exact nI_clamp (by omega)
  have e3 : (nI i).toNatClampNeg = i := nI_clamp (by omega)
  refine y_st rfl rfl rfl rfl rfl (fun _ _ => rfl) ?_
  refine y_st rfl rfl rfl rfl rfl (fun _ _ => rfl) ?_
  refine y_pfi rfl rfl rfl rfl rfl (x_fit_i _) ?_
  show yP (xg xs) d 405 5 [(0, .ref 58), (1, .int (nI i)), (2, .int q), (3, .int w)] [] (y_si m 58 0 (0 : Int32)) _
  refine y_st rfl rfl rfl rfl rfl (fun _ _ => rfl) ?_
  refine y_gf rfl rfl rfl rfl rfl ?_
  show yP (xg xs) d 405 9 [(0, .ref 58), (1, .int (nI i)), (2, .int q), (3, .int w)] [.int (m.1 58 61)] (y_si m 58 0 (0 : Int32)) _
  refine y_zeq (t := 47) rfl rfl rfl (fun h9 => ?_) (fun h9 => ?_)
  · exact absurd h9 ha
  · refine y_st rfl rfl rfl rfl rfl (fun _ _ => rfl) ?_
    show yP (xg xs) d 405 13 [(0, .ref 58), (1, .int (nI i)), (2, .int q), (3, .int w)] [.int (nI i)] (y_si m 58 0 (0 : Int32)) _
    refine y_zlt (t := 47) rfl rfl rfl (fun h13 => ?_) (fun h13 => ?_)
    · exact absurd h13 (nI_pos (by omega))
    · refine y_st rfl rfl rfl rfl rfl (fun _ _ => rfl) ?_
      refine y_st rfl rfl rfl rfl rfl (fun _ _ => rfl) ?_
      refine y_gf rfl rfl rfl rfl rfl ?_
      show yP (xg xs) d 405 21 [(0, .ref 58), (1, .int (nI i)), (2, .int q), (3, .int w)] [.int (m.1 58 23), .int (nI i)] (y_si m 58 0 (0 : Int32)) _
      refine y_ige (t := 47) rfl rfl rfl (fun h21 => ?_) (fun h21 => ?_)
      · exact absurd h21 (by rw [hn]; exact nI_ge hi (by omega))
      · refine y_st rfl rfl rfl rfl rfl (fun _ _ => rfl) ?_
        show yP (xg xs) d 405 25 [(0, .ref 58), (1, .int (nI i)), (2, .int q), (3, .int w)] [.int q] (y_si m 58 0 (0 : Int32)) _
        refine y_zlt (t := 47) rfl rfl rfl (fun h25 => ?_) (fun h25 => ?_)
        · refine y_st rfl rfl rfl rfl rfl (fun _ _ => rfl) ?_
          show yP (xg xs) d 405 48 [(0, .ref 58), (1, .int (nI i)), (2, .int q), (3, .int w)] [.int (0 : Int32)] (y_si m 58 0 (0 : Int32)) _
          exact y_iret rfl rfl rfl (⟨rfl, rfl⟩)
        · refine y_st rfl rfl rfl rfl rfl (fun _ _ => rfl) ?_
          refine y_st rfl rfl rfl rfl rfl (fun _ _ => rfl) ?_
          refine y_gf rfl rfl rfl rfl rfl ?_
          refine y_st rfl rfl rfl rfl rfl (fun _ _ => rfl) ?_
          refine y_st rfl rfl rfl rfl rfl (fun _ _ => rfl) ?_
          refine y_st rfl rfl rfl rfl rfl (fun _ _ => rfl) ?_
          show yP (xg xs) d 405 36 [(0, .ref 58), (1, .int (nI i)), (2, .int q), (3, .int w)] [.int ((nI i) + (1 : Int32)), .ref 93, .int q] (y_si m 58 0 (0 : Int32)) _
          refine y_iald rfl rfl rfl (by rw [e1]; exact x_in_nI (by omega) (by decide)) ?_
          refine y_st rfl rfl rfl rfl rfl (fun _ _ => rfl) ?_
          refine y_gf rfl rfl rfl rfl rfl ?_
          refine y_st rfl rfl rfl rfl rfl (fun _ _ => rfl) ?_
          show yP (xg xs) d 405 42 [(0, .ref 58), (1, .int (nI i)), (2, .int q), (3, .int w)] [.int (nI i), .ref 93, .int (m.1 93 (((nI i) + (1 : Int32)).toNatClampNeg)), .int q] (y_si m 58 0 (0 : Int32)) _
          refine y_iald rfl rfl rfl (x_in_nI (by omega) (by decide)) ?_
          refine y_st rfl rfl rfl rfl rfl (fun _ _ => rfl) ?_
          show yP (xg xs) d 405 44 [(0, .ref 58), (1, .int (nI i)), (2, .int q), (3, .int w)] [.int ((m.1 93 (((nI i) + (1 : Int32)).toNatClampNeg)) - (m.1 93 ((nI i).toNatClampNeg))), .int q] (y_si m 58 0 (0 : Int32)) _
          refine y_ilt (t := 49) rfl rfl rfl (fun h44 => ?_) (fun h44 => ?_)
          · exact absurd hq (by rw [e2, e3] at h44; rintro (z | z); exact h25 z; exact z h44)
          · refine y_st rfl rfl rfl rfl rfl (fun _ _ => rfl) ?_
            show yP (xg xs) d 405 48 [(0, .ref 58), (1, .int (nI i)), (2, .int q), (3, .int w)] [.int (0 : Int32)] (y_si m 58 0 (0 : Int32)) _
            exact y_iret rfl rfl rfl (⟨rfl, rfl⟩)
