/-! LENGTH: laid by wip/gen/small3.py -/
set_option maxRecDepth 20000 in
/-- CodeMaker.hasUnit -/
theorem c237 (xs : List Int32) (d : Nat) (m : yM) (c : Int32) : yC (xg xs) d 237 [.ref 0, .int c] m (fun r m' => r = some (.int (if (¬ m.1 0 12 = 0 ∧ 0 ≤ c ∧ c < m.1 35 7) then 1 else 0)) ∧ m' = m) := by
  refine y_st rfl rfl rfl rfl rfl (fun _ _ => rfl) ?_
  refine y_gf rfl rfl rfl rfl rfl ?_
  show yP (xg xs) d 237 4 [(0, .ref 0), (1, .int c)] [.int (m.1 0 12)] m _
  refine y_zeq (t := 26) rfl rfl rfl (fun h4 => ?_) (fun h4 => ?_)
  · refine y_st rfl rfl rfl rfl rfl (fun _ _ => rfl) ?_
    show yP (xg xs) d 237 27 [(0, .ref 0), (1, .int c)] [.int (0 : Int32)] m _
    exact y_zret rfl rfl rfl (by decide) (by refine ⟨congrArg (fun z => some (Value.int z)) ?_, rfl⟩; grind)
  · refine y_st rfl rfl rfl rfl rfl (fun _ _ => rfl) ?_
    show yP (xg xs) d 237 8 [(0, .ref 0), (1, .int c)] [.int c] m _
    refine y_zlt (t := 26) rfl rfl rfl (fun h8 => ?_) (fun h8 => ?_)
    · refine y_st rfl rfl rfl rfl rfl (fun _ _ => rfl) ?_
      show yP (xg xs) d 237 27 [(0, .ref 0), (1, .int c)] [.int (0 : Int32)] m _
      exact y_zret rfl rfl rfl (by decide) (by refine ⟨congrArg (fun z => some (Value.int z)) ?_, rfl⟩; grind)
    · refine y_st rfl rfl rfl rfl rfl (fun _ _ => rfl) ?_
      refine y_st rfl rfl rfl rfl rfl (fun _ _ => rfl) ?_
      refine y_gf rfl rfl rfl rfl rfl ?_
      refine y_gf rfl rfl rfl rfl rfl ?_
      show yP (xg xs) d 237 19 [(0, .ref 0), (1, .int c)] [.int (m.1 35 7), .int c] m _
      refine y_ige (t := 26) rfl rfl rfl (fun h19 => ?_) (fun h19 => ?_)
      · refine y_st rfl rfl rfl rfl rfl (fun _ _ => rfl) ?_
        show yP (xg xs) d 237 27 [(0, .ref 0), (1, .int c)] [.int (0 : Int32)] m _
        exact y_zret rfl rfl rfl (by decide) (by refine ⟨congrArg (fun z => some (Value.int z)) ?_, rfl⟩; grind)
      · refine y_st rfl rfl rfl rfl rfl (fun _ _ => rfl) ?_
        refine y_st rfl rfl rfl rfl rfl (fun _ _ => rfl) ?_
        show yP (xg xs) d 237 27 [(0, .ref 0), (1, .int c)] [.int (1 : Int32)] m _
        exact y_zret rfl rfl rfl (by decide) (by refine ⟨congrArg (fun z => some (Value.int z)) ?_, rfl⟩; grind)
set_option maxRecDepth 20000 in
/-- Code.unitSize -/
theorem c220 (xs : List Int32) (d : Nat) (m : yM) (i u : Nat) (hi : i < u) (hu : u ≤ 16) (hn : m.1 35 7 = nI u) : yC (xg xs) d 220 [.ref 35, .int (nI i)] m (fun r m' => r = some (.int ((if i + 1 < u then m.1 40 (i + 1) else m.1 35 6) - m.1 40 i)) ∧ m' = m) := by
  have e1 : nI i + 1 = nI (i + 1) := nI_1 i
  have e2 : (nI i + 1).toNatClampNeg = i + 1 := by rw [e1]; exact nI_clamp (by omega)
  have e3 : (nI i).toNatClampNeg = i := nI_clamp (by omega)
  refine y_st rfl rfl rfl rfl rfl (fun _ _ => rfl) ?_
  refine y_st rfl rfl rfl rfl rfl (fun _ _ => rfl) ?_
  refine y_st rfl rfl rfl rfl rfl (fun _ _ => rfl) ?_
  refine y_st rfl rfl rfl rfl rfl (fun _ _ => rfl) ?_
  refine y_gf rfl rfl rfl rfl rfl ?_
  show yP (xg xs) d 220 7 [(0, .ref 35), (1, .int (nI i))] [.int (m.1 35 7), .int ((nI i) + (1 : Int32))] m _
  refine y_ige (t := 21) rfl rfl rfl (fun h7 => ?_) (fun h7 => ?_)
  · have g7 : ¬ i + 1 < u := by rw [e1, hn, nI_leI (by omega) (by omega)] at h7; omega
    refine y_st rfl rfl rfl rfl rfl (fun _ _ => rfl) ?_
    refine y_gf rfl rfl rfl rfl rfl ?_
    refine y_st rfl rfl rfl rfl rfl (fun _ _ => rfl) ?_
    refine y_gf rfl rfl rfl rfl rfl ?_
    refine y_st rfl rfl rfl rfl rfl (fun _ _ => rfl) ?_
    show yP (xg xs) d 220 30 [(0, .ref 35), (1, .int (nI i))] [.int (nI i), .ref 40, .int (m.1 35 6)] m _
    refine y_iald rfl rfl rfl (x_in_nI (by omega) (by decide)) ?_
    refine y_st rfl rfl rfl rfl rfl (fun _ _ => rfl) ?_
    show yP (xg xs) d 220 32 [(0, .ref 35), (1, .int (nI i))] [.int ((m.1 35 6) - (m.1 40 ((nI i).toNatClampNeg)))] m _
    exact y_iret rfl rfl rfl (by refine ⟨?_, rfl⟩; first | (rw [if_pos g7, e2, e3]) | (rw [if_neg g7, e3]))
  · have g7 : i + 1 < u := by rw [e1, hn, nI_leI (by omega) (by omega)] at h7; omega
    refine y_st rfl rfl rfl rfl rfl (fun _ _ => rfl) ?_
    refine y_gf rfl rfl rfl rfl rfl ?_
    refine y_st rfl rfl rfl rfl rfl (fun _ _ => rfl) ?_
    refine y_st rfl rfl rfl rfl rfl (fun _ _ => rfl) ?_
    refine y_st rfl rfl rfl rfl rfl (fun _ _ => rfl) ?_
    show yP (xg xs) d 220 17 [(0, .ref 35), (1, .int (nI i))] [.int ((nI i) + (1 : Int32)), .ref 40] m _
    refine y_iald rfl rfl rfl (by rw [e1]; exact x_in_nI (by omega) (by decide)) ?_
    refine y_st rfl rfl rfl rfl rfl (fun _ _ => rfl) ?_
    refine y_st rfl rfl rfl rfl rfl (fun _ _ => rfl) ?_
    refine y_gf rfl rfl rfl rfl rfl ?_
    refine y_st rfl rfl rfl rfl rfl (fun _ _ => rfl) ?_
    show yP (xg xs) d 220 30 [(0, .ref 35), (1, .int (nI i))] [.int (nI i), .ref 40, .int (m.1 40 (((nI i) + (1 : Int32)).toNatClampNeg))] m _
    refine y_iald rfl rfl rfl (x_in_nI (by omega) (by decide)) ?_
    refine y_st rfl rfl rfl rfl rfl (fun _ _ => rfl) ?_
    show yP (xg xs) d 220 32 [(0, .ref 35), (1, .int (nI i))] [.int ((m.1 40 (((nI i) + (1 : Int32)).toNatClampNeg)) - (m.1 40 ((nI i).toNatClampNeg)))] m _
    exact y_iret rfl rfl rfl (by refine ⟨?_, rfl⟩; first | (rw [if_pos g7, e2, e3]) | (rw [if_neg g7, e3]))
set_option maxRecDepth 20000 in
/-- CodeMaker.length of a unit that is -/
theorem c236a (xs : List Int32) (d : Nat) (m : yM) (i u : Nat) (hi : i < u) (hu : u ≤ 16) (hn : m.1 35 7 = nI u) (ha : ¬ m.1 0 12 = 0) : yC (xg xs) (d + 1) 236 [.ref 0, .int (nI i)] m (fun r m' => r = some (.int ((if i + 1 < u then m.1 40 (i + 1) else m.1 35 6) - m.1 40 i)) ∧ m' = m) := by
  refine y_st rfl rfl rfl rfl rfl (fun _ _ => rfl) ?_
  refine y_st rfl rfl rfl rfl rfl (fun _ _ => rfl) ?_
  show yP (xg xs) (d + 1) 236 2 [(0, .ref 0), (1, .int (nI i))] [.int (nI i), .ref 0] m _
  refine y_call rfl rfl rfl rfl rfl (Nat.le_of_ble_eq_true rfl) (Nat.le_of_ble_eq_true rfl) rfl (by decide) (c237 xs d m (nI i)) (fun v1 m1 q1 => ?_)
  obtain ⟨rfl, e1⟩ := q1; rw [e1]; clear e1
  show yP (xg xs) (d + 1) 236 5 [(0, .ref 0), (1, .int (nI i))] [.int (if (¬ m.1 0 12 = 0 ∧ 0 ≤ (nI i) ∧ (nI i) < m.1 35 7) then 1 else 0)] m _
  refine y_zeq (t := 19) rfl rfl rfl (fun h5 => ?_) (fun h5 => ?_)
  · exact absurd ⟨ha, nI_pos' (by omega), by rw [hn]; exact nI_lt hi (by omega)⟩ (y_iff h5)
  · refine y_st rfl rfl rfl rfl rfl (fun _ _ => rfl) ?_
    refine y_gf rfl rfl rfl rfl rfl ?_
    refine y_st rfl rfl rfl rfl rfl (fun _ _ => rfl) ?_
    show yP (xg xs) (d + 1) 236 13 [(0, .ref 0), (1, .int (nI i))] [.int (nI i), .ref 35] m _
    refine y_call rfl rfl rfl rfl rfl (Nat.le_of_ble_eq_true rfl) (Nat.le_of_ble_eq_true rfl) rfl (by decide) (c220 xs d m i u hi hu hn) (fun v2 m2 q2 => ?_)
    obtain ⟨rfl, e2⟩ := q2; rw [e2]; clear e2
    refine y_st rfl rfl rfl rfl rfl (fun _ _ => rfl) ?_
    show yP (xg xs) (d + 1) 236 20 [(0, .ref 0), (1, .int (nI i))] [.int ((if i + 1 < u then m.1 40 (i + 1) else m.1 35 6) - m.1 40 i)] m _
    exact y_iret rfl rfl rfl (⟨rfl, rfl⟩)
set_option maxRecDepth 20000 in
/-- CodeMaker.length of none -/
theorem c236b (xs : List Int32) (d : Nat) (m : yM) (c : Int32) (hc : ¬ (¬ m.1 0 12 = 0 ∧ 0 ≤ c ∧ c < m.1 35 7)) : yC (xg xs) (d + 1) 236 [.ref 0, .int c] m (fun r m' => r = some (.int (-1)) ∧ m' = m) := by
  refine y_st rfl rfl rfl rfl rfl (fun _ _ => rfl) ?_
  refine y_st rfl rfl rfl rfl rfl (fun _ _ => rfl) ?_
  show yP (xg xs) (d + 1) 236 2 [(0, .ref 0), (1, .int c)] [.int c, .ref 0] m _
  refine y_call rfl rfl rfl rfl rfl (Nat.le_of_ble_eq_true rfl) (Nat.le_of_ble_eq_true rfl) rfl (by decide) (c237 xs d m c) (fun v1 m1 q1 => ?_)
  obtain ⟨rfl, e1⟩ := q1; rw [e1]; clear e1
  show yP (xg xs) (d + 1) 236 5 [(0, .ref 0), (1, .int c)] [.int (if (¬ m.1 0 12 = 0 ∧ 0 ≤ c ∧ c < m.1 35 7) then 1 else 0)] m _
  refine y_zeq (t := 19) rfl rfl rfl (fun h5 => ?_) (fun h5 => ?_)
  · refine y_st rfl rfl rfl rfl rfl (fun _ _ => rfl) ?_
    show yP (xg xs) (d + 1) 236 20 [(0, .ref 0), (1, .int c)] [.int ((-1) : Int32)] m _
    exact y_iret rfl rfl rfl (⟨rfl, rfl⟩)
  · exact absurd (y_ift h5) hc
set_option maxRecDepth 20000 in
/-- reference: length of a unit that is -/
theorem c404a (xs : List Int32) (d : Nat) (m : yM) (i u : Nat) (hi : i < u) (hu : u ≤ 16) (hn : m.1 58 23 = nI u) (ha : ¬ m.1 58 61 = 0) : yC (xg xs) d 404 [.ref 58, .int (nI i)] m (fun r m' => r = some (.int (m.1 93 (i + 1) - m.1 93 i)) ∧ m' = y_si m 58 0 0) := by
  have e1 : nI i + 1 = nI (i + 1) := nI_1 i
  have e2 : (nI i + 1).toNatClampNeg = i + 1 := by rw [e1]; exact nI_clamp (by omega)
  have e3 : (nI i).toNatClampNeg = i := nI_clamp (by omega)
  refine y_st rfl rfl rfl rfl rfl (fun _ _ => rfl) ?_
  refine y_st rfl rfl rfl rfl rfl (fun _ _ => rfl) ?_
  refine y_pfi rfl rfl rfl rfl rfl (x_fit_i _) ?_
  show yP (xg xs) d 404 5 [(0, .ref 58), (1, .int (nI i))] [] (y_si m 58 0 (0 : Int32)) _
  refine y_st rfl rfl rfl rfl rfl (fun _ _ => rfl) ?_
  refine y_gf rfl rfl rfl rfl rfl ?_
  show yP (xg xs) d 404 9 [(0, .ref 58), (1, .int (nI i))] [.int (m.1 58 61)] (y_si m 58 0 (0 : Int32)) _
  refine y_zeq (t := 42) rfl rfl rfl (fun h9 => ?_) (fun h9 => ?_)
  · exact absurd h9 ha
  · refine y_st rfl rfl rfl rfl rfl (fun _ _ => rfl) ?_
    show yP (xg xs) d 404 13 [(0, .ref 58), (1, .int (nI i))] [.int (nI i)] (y_si m 58 0 (0 : Int32)) _
    refine y_zlt (t := 42) rfl rfl rfl (fun h13 => ?_) (fun h13 => ?_)
    · exact absurd h13 (nI_pos (by omega))
    · refine y_st rfl rfl rfl rfl rfl (fun _ _ => rfl) ?_
      refine y_st rfl rfl rfl rfl rfl (fun _ _ => rfl) ?_
      refine y_gf rfl rfl rfl rfl rfl ?_
      show yP (xg xs) d 404 21 [(0, .ref 58), (1, .int (nI i))] [.int (m.1 58 23), .int (nI i)] (y_si m 58 0 (0 : Int32)) _
      refine y_ige (t := 42) rfl rfl rfl (fun h21 => ?_) (fun h21 => ?_)
      · exact absurd h21 (by rw [hn]; exact nI_ge hi (by omega))
      · refine y_st rfl rfl rfl rfl rfl (fun _ _ => rfl) ?_
        refine y_gf rfl rfl rfl rfl rfl ?_
        refine y_st rfl rfl rfl rfl rfl (fun _ _ => rfl) ?_
        refine y_st rfl rfl rfl rfl rfl (fun _ _ => rfl) ?_
        refine y_st rfl rfl rfl rfl rfl (fun _ _ => rfl) ?_
        show yP (xg xs) d 404 31 [(0, .ref 58), (1, .int (nI i))] [.int ((nI i) + (1 : Int32)), .ref 93] (y_si m 58 0 (0 : Int32)) _
        refine y_iald rfl rfl rfl (by rw [e1]; exact x_in_nI (by omega) (by decide)) ?_
        refine y_st rfl rfl rfl rfl rfl (fun _ _ => rfl) ?_
        refine y_gf rfl rfl rfl rfl rfl ?_
        refine y_st rfl rfl rfl rfl rfl (fun _ _ => rfl) ?_
        show yP (xg xs) d 404 37 [(0, .ref 58), (1, .int (nI i))] [.int (nI i), .ref 93, .int (m.1 93 (((nI i) + (1 : Int32)).toNatClampNeg))] (y_si m 58 0 (0 : Int32)) _
        refine y_iald rfl rfl rfl (x_in_nI (by omega) (by decide)) ?_
        refine y_st rfl rfl rfl rfl rfl (fun _ _ => rfl) ?_
        refine y_st rfl rfl rfl rfl rfl (fun _ _ => rfl) ?_
        show yP (xg xs) d 404 43 [(0, .ref 58), (1, .int (nI i))] [.int ((m.1 93 (((nI i) + (1 : Int32)).toNatClampNeg)) - (m.1 93 ((nI i).toNatClampNeg)))] (y_si m 58 0 (0 : Int32)) _
        exact y_iret rfl rfl rfl (by refine ⟨?_, rfl⟩; rw [e2, e3])
set_option maxRecDepth 20000 in
/-- reference: length of none -/
theorem c404b (xs : List Int32) (d : Nat) (m : yM) (c : Int32) (hc : ¬ (¬ m.1 58 61 = 0 ∧ 0 ≤ c ∧ c < m.1 58 23)) : yC (xg xs) d 404 [.ref 58, .int c] m (fun r m' => r = some (.int (-1)) ∧ m' = y_si m 58 0 0) := by
  refine y_st rfl rfl rfl rfl rfl (fun _ _ => rfl) ?_
  refine y_st rfl rfl rfl rfl rfl (fun _ _ => rfl) ?_
  refine y_pfi rfl rfl rfl rfl rfl (x_fit_i _) ?_
  show yP (xg xs) d 404 5 [(0, .ref 58), (1, .int c)] [] (y_si m 58 0 (0 : Int32)) _
  refine y_st rfl rfl rfl rfl rfl (fun _ _ => rfl) ?_
  refine y_gf rfl rfl rfl rfl rfl ?_
  show yP (xg xs) d 404 9 [(0, .ref 58), (1, .int c)] [.int (m.1 58 61)] (y_si m 58 0 (0 : Int32)) _
  refine y_zeq (t := 42) rfl rfl rfl (fun h9 => ?_) (fun h9 => ?_)
  · refine y_st rfl rfl rfl rfl rfl (fun _ _ => rfl) ?_
    show yP (xg xs) d 404 43 [(0, .ref 58), (1, .int c)] [.int ((-1) : Int32)] (y_si m 58 0 (0 : Int32)) _
    exact y_iret rfl rfl rfl (⟨rfl, rfl⟩)
  · refine y_st rfl rfl rfl rfl rfl (fun _ _ => rfl) ?_
    show yP (xg xs) d 404 13 [(0, .ref 58), (1, .int c)] [.int c] (y_si m 58 0 (0 : Int32)) _
    refine y_zlt (t := 42) rfl rfl rfl (fun h13 => ?_) (fun h13 => ?_)
    · refine y_st rfl rfl rfl rfl rfl (fun _ _ => rfl) ?_
      show yP (xg xs) d 404 43 [(0, .ref 58), (1, .int c)] [.int ((-1) : Int32)] (y_si m 58 0 (0 : Int32)) _
      exact y_iret rfl rfl rfl (⟨rfl, rfl⟩)
    · refine y_st rfl rfl rfl rfl rfl (fun _ _ => rfl) ?_
      refine y_st rfl rfl rfl rfl rfl (fun _ _ => rfl) ?_
      refine y_gf rfl rfl rfl rfl rfl ?_
      show yP (xg xs) d 404 21 [(0, .ref 58), (1, .int c)] [.int (m.1 58 23), .int c] (y_si m 58 0 (0 : Int32)) _
      refine y_ige (t := 42) rfl rfl rfl (fun h21 => ?_) (fun h21 => ?_)
      · refine y_st rfl rfl rfl rfl rfl (fun _ _ => rfl) ?_
        show yP (xg xs) d 404 43 [(0, .ref 58), (1, .int c)] [.int ((-1) : Int32)] (y_si m 58 0 (0 : Int32)) _
        exact y_iret rfl rfl rfl (⟨rfl, rfl⟩)
      · exact absurd ⟨h9, Int32.not_lt.mp h13, Int32.not_le.mp h21⟩ hc
theorem op_length (xs : List Int32) (D : Nat) {Ro : yM → Prop} (hR : ∀ m, Ro m → Rh m) (hS : ClT Ro) (c : Int32) : opOk xs (D + 1) (InT Ro) (InT Ro) 236 404 [.int c] := by
  rintro m ⟨⟨k, h1, h2, h3, h4⟩, ho⟩
  have hr := hR m ho
  by_cases hc : ¬ m.1 0 12 = 0 ∧ 0 ≤ c ∧ c < m.1 35 7
  · obtain ⟨u, z, cc, st, q1, q2, q3, q4, -, q6, -, -, -, -, -, -, -, qs, qe, qf, -, -⟩ := hr.2.2.2.2 hc.1
    obtain ⟨i, hi, rfl⟩ := nI_of (x := c) (Int32.not_lt.mpr hc.2.1)
    have hiu : i < u := by
      have h9 := hc.2.2
      rw [q3, nI_ltI hi (by omega)] at h9
      exact h9
    refine yC.mono (Nat.le_refl _) ?_ (c236a xs D m i u hiu q2 q3 hc.1)
    rintro r m1 ⟨rfl, e1⟩
    refine ⟨_, rfl, ?_⟩
    rw [e1]
    refine yC.mono (Nat.le_succ _) ?_ (c404a xs D m i u hiu q2 q4 (by rw [← hr.2.2.1]; exact hc.1))
    rintro r2 m2 ⟨rfl, rfl⟩
    refine ⟨?_, ⟨k, h1, h2, h3, h4⟩, hS m _ (Sm.si (by decide)) ho⟩
    obtain ⟨a1, a2, -⟩ := qs i hiu
    rw [a1, a2]
    by_cases hl : i + 1 < u
    · obtain ⟨b1, b2, -⟩ := qs (i + 1) hl
      rw [if_pos hl, b1, b2]
    · have e2 : i + 1 = u := by omega
      rw [if_neg hl, e2, qf, q6]
  · refine yC.mono (Nat.le_refl _) ?_ (c236b xs D m c hc)
    rintro r m1 ⟨rfl, e1⟩
    refine ⟨_, rfl, ?_⟩
    rw [e1]
    refine yC.mono (Nat.le_succ _) ?_ (c404b xs D m c (fun z => hc (by
      obtain ⟨z1, z2, z3⟩ := z
      rw [← hr.2.2.1] at z1
      obtain ⟨u, z, cc, st, q1, q2, q3, q4, -⟩ := hr.2.2.2.2 z1
      exact ⟨z1, z2, by rw [q3, ← q4]; exact z3⟩)))
    rintro r2 m2 ⟨rfl, rfl⟩
    exact ⟨rfl, ⟨k, h1, h2, h3, h4⟩, hS m _ (Sm.si (by decide)) ho⟩
