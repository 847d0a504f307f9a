/-! STANDARD BLOCKS: the reference -/
theorem upd_at (f : Nat → Int32) (i : Nat) (v : Int32) (j : Nat) : upd f i v j = if j = i then v else f j := rfl
theorem upd_c (f : Nat → Int32) {i j : Nat} (h : ¬ i = j) (v w : Int32) : upd (upd f i v) j w = upd (upd f j w) i v := by
  funext k
  simp only [upd_at]
  by_cases a : k = i
  · rw [if_pos a, if_pos a, if_neg (by omega)]
  · rw [if_neg a, if_neg a]
theorem upd_s (f : Nat → Int32) {i : Nat} {v : Int32} (h : f i = v) : upd f i v = f := by
  funext k
  rw [upd_at]
  split
  · rename_i e; rw [e, h]
  · rfl
theorem i64_lt (a b : Int32) : lg_cmp a.toInt64 b.toInt64 < 0 ↔ a < b := by
  rw [lg_cmp_lt, Int64.lt_iff_toInt_lt, i64_r, i64_r, Int32.lt_iff_toInt_lt]
theorem i64_ge (a b : Int32) : 0 ≤ lg_cmp a.toInt64 b.toInt64 ↔ b ≤ a := by
  rw [lg_cmp_ge, Int64.le_iff_toInt_le, i64_r, i64_r, Int32.le_iff_toInt_le]
theorem i64_le0 (a : Int32) : lg_cmp a.toInt64 0 ≤ 0 ↔ a ≤ 0 := by
  have e : (0 : Int64).toInt = 0 := rfl
  rw [lg_cmp_le, Int64.le_iff_toInt_le, i64_r, e, Int32.le_iff_toInt_le]
  rfl
theorem tmL_r (now : Int32) (M : Nat → Int32) (c : Nat) : (if 0 ≤ lg_cmp (tmW M c).toInt64 ((M (c + 3)).toInt64 + (now.toInt64 - (M (c + 5)).toInt64)) then (M (c + 3)).toInt64 + (now.toInt64 - (M (c + 5)).toInt64) else (tmW M c).toInt64).toInt32 = tmL now M c := by
  unfold tmL
  generalize (M (c + 3)).toInt64 + (now.toInt64 - (M (c + 5)).toInt64) = v
  generalize (tmW M c).toInt64 = w
  congr 1
  have g := lg_cmp_ge w v
  have l := @Int64.le_iff_toInt_le v w
  have l2 := @Int64.lt_iff_toInt_lt v w
  by_cases h : v < w
  · rw [if_pos h, if_pos (g.mpr (l.mpr (by have := l2.mp h; omega)))]
  · by_cases h2 : v ≤ w
    · rw [if_neg h, if_pos (g.mpr h2)]
      apply Int64.toInt_inj.mp
      have := l.mp h2
      have : ¬ v.toInt < w.toInt := fun z => h (l2.mpr z)
      omega
    · rw [if_neg h, if_neg (fun z => h2 (g.mp z))]
theorem tmW_r (M : Nat → Int32) (c : Nat) : (0 ≤ M (c + 1) → (M (c + 1)).toInt64 = (tmW M c).toInt64) ∧ (¬ 0 ≤ M (c + 1) → (0 : Int64) = (tmW M c).toInt64) := by
  unfold tmW
  refine ⟨fun h => ?_, fun h => ?_⟩
  · rw [if_neg (Int32.not_lt.mpr h)]
  · rw [if_pos (Int32.not_le.mp h)]
    rfl
theorem c400 (xs : List Int32) (d : Nat) (m : yM) {c k : Nat} (h : c + 5 < 8192) (hk : k < 3) : yC (xg xs) (d + 1) 400 [.ref 58, .int (nI k), .int (nI c), .int (onF (m.1 98 c))] m (fun r m' => r = none ∧ m' = y_sa m 98 (tmrF k (m.1 58 64) c (m.1 98))) := by
  have a1 : nI c + 1 = nI (c + 1) := nI_add c 1
  have a2 : nI c + 2 = nI (c + 2) := nI_add c 2
  have a3 : nI c + 3 = nI (c + 3) := nI_add c 3
  have a4 : nI c + 4 = nI (c + 4) := nI_add c 4
  have a5 : nI c + 5 = nI (c + 5) := nI_add c 5
  have x : ∀ j, j ≤ 5 → x_in (nI (c + j)) 8192 = true := fun j hj => x_in_nI (by omega) (by decide)
  have n : ∀ j, j ≤ 5 → (nI (c + j)).toNatClampNeg = c + j := fun j hj => nI_clamp (by omega)
  have e0 : nI k = 0 ↔ k = 0 := nI_eq (b := 0) (by omega) (by omega)
  have e1 : nI k = 1 ↔ k = 1 := nI_eq (b := 1) (by omega) (by omega)
  generalize hon : onF (m.1 98 c) = on
  generalize hnow : m.1 58 64 = now
  generalize hM : m.1 98 = M
  have hon' : onF (M c) = on := by rw [← hM]; exact hon
  -- the end
  have s402 : ∀ X Y : Nat → Int32, upd (upd X (c + 4) on) (c + 5) now = Y → yP (xg xs) (d + 1) 400 402 [(0, .ref 58), (2, .int (nI c)), (3, .int on)] [] (y_sa m 98 X) (fun r m' => r = none ∧ m' = y_sa m 98 Y) := by
    intro X Y e
    refine w400_402 xs d _ _ _ _ (y_ci (c401 xs d _ on) (by omega) ?_)
    rw [a4, a5]
    refine ⟨x 4 (by omega), x 5 (by omega), rfl, ?_⟩
    rw [n 4 (by omega), n 5 (by omega), y_ss, y_ss, y_sa_o _ _ (by decide), hnow, ← e]
    have oo : (if on = 0 then (0 : Int32) else 1) = on := by rw [← hon]; exact onF_o _
    rw [oo]
  have iv : ∀ (b : Int32), (if b = 0 then (0 : Int32) else 1) = onF b := fun _ => rfl
  have mid : ∀ (was l9 : Int32) (s0 : Int64), was = onF (M (c + 4)) → l9 = onF (M (c + 2)) → s0.toInt32 = tmL now M c → yP (xg xs) (d + 1) 400 108 [(0, .ref 58), (1, .int (nI k)), (2, .int (nI c)), (3, .int on), (4, .int was), (7, .long (tmW M c).toInt64), (9, .int l9)] [.long s0] m (fun r m' => r = none ∧ m' = y_sa m 98 (tmrF k now c M)) := by
    intro was l9 s0 hw h9 hs
    have m0 : m = y_sa m 98 M := by rw [← hM, y_sa_i]
    refine w400_108 xs d _ _ _ _ _ _ _ m _ ⟨fun z0 => ⟨fun z1 => ?_, fun z1 => ?_⟩, fun z0 => ?_⟩
    · -- TP
      have k0 : ¬ k = 0 := fun q => z0 (e0.mpr q)
      have k1 : ¬ k = 1 := fun q => z1 (e1.mpr q)
      have s330 : ∀ X : Nat → Int32, X = tm2a M c (tmL now M c) (tmW M c) → yP (xg xs) (d + 1) 400 330 [(0, .ref 58), (2, .int (nI c)), (3, .int on), (4, .int was), (7, .long (tmW M c).toInt64)] [] (y_sa m 98 X) (fun r m' => r = none ∧ m' = y_sa m 98 (tmrF k now c M)) := by
        intro X hX
        have fin : ∀ Z : Nat → Int32, Z = tm2b X c on was (tmW M c) → upd (upd Z (c + 4) on) (c + 5) now = tmrF k now c M := by
          intro Z hZ
          unfold tmrF
          rw [if_neg k0, if_neg k1, hZ, hX, hon', ← hw]
        have s369 : ∀ b : Int32, onF b = b → X (c + 2) = 0 → (on = 0 → b = 0) → (¬ on = 0 → ¬ was = 0 → b = 0) → (¬ on = 0 → was = 0 → b = if tmW M c ≤ 0 then 0 else 1) → yP (xg xs) (d + 1) 400 369 [(0, .ref 58), (2, .int (nI c)), (3, .int on), (4, .int was)] [.int b, .int (nI (c + 2)), .ref 98] (y_sa m 98 X) (fun r m' => r = none ∧ m' = y_sa m 98 (tmrF k now c M)) := by
          intro b hb x2 q1 q2 q3
          refine w400_369 xs d _ _ _ _ _ _ _ (y_ci (c401 xs d _ b) (by omega) ⟨x 2 (by omega), ?_⟩)
          rw [a3, n 2 (by omega), iv, hb, y_ss]
          have s401 : ∀ v : Int32, upd (upd X (c + 2) b) (c + 3) v = tm2b X c on was (tmW M c) → yP (xg xs) (d + 1) 400 401 [(0, .ref 58), (2, .int (nI c)), (3, .int on)] [.int v, .int (nI (c + 3)), .ref 98] (y_sa m 98 (upd X (c + 2) b)) (fun r m' => r = none ∧ m' = y_sa m 98 (tmrF k now c M)) := by
            intro v ev
            refine w400_401 xs d _ _ _ _ _ _ ⟨x 3 (by omega), ?_⟩
            rw [n 3 (by omega), y_ss]
            exact s402 _ _ (fin _ ev)
          refine ⟨fun z => ?_, fun z => ⟨fun w => ⟨x 3 (by omega), ?_⟩, fun w => ?_⟩⟩
          · refine w400_389 xs d _ _ _ _ _ (s401 0 ?_)
            unfold tm2b
            rw [if_pos x2, if_pos z, q1 z, upd_s X x2]
          · rw [n 3 (by omega), y_sa_a]
            refine s401 _ ?_
            unfold tm2b
            rw [if_pos x2, if_neg z, if_neg w, q2 z w, upd_s X x2, upd_s X rfl]
          · refine w400_389 xs d _ _ _ _ _ (s401 0 ?_)
            unfold tm2b
            rw [if_pos x2, if_neg z, if_pos w, q3 z w, upd_c _ (by omega)]
        refine w400_330 xs d _ _ _ _ _ _ ?_
        rw [a2, n 2 (by omega), y_sa_a]
        refine ⟨x 2 (by omega), fun z => ?_, fun z => ⟨fun w => ?_, fun w => ⟨fun v => ?_, fun v => ⟨fun u => ?_, fun u => ?_⟩⟩⟩⟩
        · refine s402 _ _ (fin X ?_)
          unfold tm2b
          rw [if_neg z]
        · exact w400_368 xs d _ _ _ _ _ _ (s369 0 onF_z z (fun _ => rfl) (fun q => absurd w q) (fun q => absurd w q))
        · exact w400_368 xs d _ _ _ _ _ _ (s369 0 onF_z z (fun q => absurd q w) (fun _ _ => rfl) (fun _ q => absurd q v))
        · exact w400_368 xs d _ _ _ _ _ _ (s369 0 onF_z z (fun q => absurd q w) (fun _ q => absurd v q) (fun _ _ => by rw [if_pos ((i64_le0 _).mp u)]))
        · exact s369 1 onF_1 z (fun q => absurd q w) (fun _ q => absurd v q) (fun _ _ => by rw [if_neg (fun q => u ((i64_le0 _).mpr q))])
      rw [a2, a3, n 2 (by omega), n 3 (by omega), hs, y_s1 m, hM, y_sa_a]
      have u3 : upd M (c + 3) (tmL now M c) (c + 3) = tmL now M c := by rw [upd_at, if_pos rfl]
      have u2 : upd M (c + 3) (tmL now M c) (c + 2) = M (c + 2) := by rw [upd_at, if_neg (by omega)]
      rw [u3, u2]
      refine ⟨fun z => ?_, fun z => ⟨x 3 (by omega), x 3 (by omega), fun u => ?_, fun u => ⟨x 2 (by omega), ?_⟩⟩⟩
      · rw [h9] at z
        have := s330 M (by unfold tm2a; rw [if_pos (onF_0.mp z)])
        rw [← m0] at this
        exact this
      · rw [h9] at z
        have z : ¬ M (c + 2) = 0 := fun q => z (onF_0.mpr q)
        refine w400_329 xs d _ _ _ _ _ _ _ _ ⟨x 2 (by omega), ?_⟩
        rw [n 2 (by omega), y_ss]
        refine s330 _ ?_
        unfold tm2a
        rw [if_neg z, if_neg (Int32.not_lt.mpr ((i64_ge _ _).mp u))]
      · rw [h9] at z
        have z : ¬ M (c + 2) = 0 := fun q => z (onF_0.mpr q)
        refine w400_329 xs d _ _ _ _ _ _ _ _ ⟨x 2 (by omega), ?_⟩
        rw [n 2 (by omega), y_ss]
        refine s330 _ ?_
        unfold tm2a
        rw [if_neg z, if_pos (Int32.not_le.mp (fun q => u ((i64_ge _ _).mpr q))), upd_s _ u2]
    · -- TOF
      have k1 := e1.mp z1
      have fin : ∀ Z : Nat → Int32, Z = tm1 M c on was (tmL now M c) (tmW M c) → upd (upd Z (c + 4) on) (c + 5) now = tmrF k now c M := by
        intro Z hZ
        unfold tmrF
        rw [if_neg (by omega), if_pos k1, hZ, hon', ← hw]
      have s222 : ∀ b : Int32, onF b = b → upd (upd M (c + 3) 0) (c + 2) b = tm1 M c on was (tmL now M c) (tmW M c) → yP (xg xs) (d + 1) 400 222 [(0, .ref 58), (2, .int (nI c)), (3, .int on)] [.int b, .int (nI (c + 2)), .ref 98] (y_sa m 98 (upd M (c + 3) 0)) (fun r m' => r = none ∧ m' = y_sa m 98 (tmrF k now c M)) := by
        intro b hb e
        refine w400_222 xs d _ _ _ _ _ _ (y_ci (c401 xs d _ b) (by omega) ⟨x 2 (by omega), ?_⟩)
        rw [n 2 (by omega), iv, hb, y_ss]
        exact s402 _ _ (fin _ e)
      have s190 : (¬ on = 0 ∨ (on = 0 ∧ ¬ was = 0)) → yP (xg xs) (d + 1) 400 190 [(0, .ref 58), (2, .int (nI c)), (3, .int on), (7, .long (tmW M c).toInt64)] [] m (fun r m' => r = none ∧ m' = y_sa m 98 (tmrF k now c M)) := by
        intro q
        refine w400_190 xs d _ _ _ m _ ?_
        rw [a2, a3, n 3 (by omega), y_s1 m, hM]
        refine ⟨x 3 (by omega), fun z => ?_, fun z => ?_⟩
        · refine w400_217 xs d _ _ _ _ _ (s222 1 onF_1 ?_)
          unfold tm1
          rw [if_neg z, upd_c _ (by omega)]
        · have w := (q.resolve_left (fun y => y z)).2
          refine ⟨fun u => ?_, fun u => ?_⟩
          · refine s222 0 onF_z ?_
            unfold tm1
            rw [if_pos z, if_neg w, if_pos ((i64_le0 _).mp u)]
          · refine w400_217 xs d _ _ _ _ _ (s222 1 onF_1 ?_)
            unfold tm1
            rw [if_pos z, if_neg w, if_neg (fun q => u ((i64_le0 _).mpr q))]
      have s272 : ∀ b : Int32, onF b = b → upd (upd M (c + 3) (tmL now M c)) (c + 2) b = tm1 M c on was (tmL now M c) (tmW M c) → yP (xg xs) (d + 1) 400 272 [(0, .ref 58), (2, .int (nI c)), (3, .int on)] [.int b, .int (nI (c + 2)), .ref 98] (y_sa m 98 (upd M (c + 3) (tmL now M c))) (fun r m' => r = none ∧ m' = y_sa m 98 (tmrF k now c M)) := by
        intro b hb e
        refine w400_272 xs d _ _ _ _ _ _ (y_ci (c401 xs d _ b) (by omega) ⟨x 2 (by omega), ?_⟩)
        rw [n 2 (by omega), iv, hb, y_ss]
        exact s402 _ _ (fin _ e)
      refine ⟨fun z => s190 (Or.inl z), fun z => ⟨fun w => ?_, fun w => s190 (Or.inr ⟨z, w⟩)⟩⟩
      rw [a2, a3, n 3 (by omega), hs, y_s1 m, hM, y_sa_a]
      have u3 : upd M (c + 3) (tmL now M c) (c + 3) = tmL now M c := by rw [upd_at, if_pos rfl]
      rw [u3]
      refine ⟨fun q => ?_, fun q => ⟨x 3 (by omega), x 3 (by omega), fun u => ?_, fun u => ?_⟩⟩
      · rw [h9] at q
        have := s402 M _ (fin M (by unfold tm1; rw [if_pos z, if_pos w, if_pos (onF_0.mp q)]))
        rw [← m0] at this
        exact this
      · rw [h9] at q
        refine s272 0 onF_z ?_
        unfold tm1
        rw [if_pos z, if_pos w, if_neg (fun y => q (onF_0.mpr y)), if_pos ((i64_ge _ _).mp u)]
      · rw [h9] at q
        refine s272 1 onF_1 ?_
        unfold tm1
        rw [if_pos z, if_pos w, if_neg (fun y => q (onF_0.mpr y)), if_neg (fun y => u ((i64_ge _ _).mpr y))]
    · -- TON
      have k0 := e0.mp z0
      have s137 : ∀ v : Int32, v = (if on = 0 then 0 else (if was = 0 then 0 else tmL now M c)) → yP (xg xs) (d + 1) 400 137 [(0, .ref 58), (2, .int (nI c)), (3, .int on), (7, .long (tmW M c).toInt64)] [.int v, .int (nI (c + 3)), .ref 98] m (fun r m' => r = none ∧ m' = y_sa m 98 (tmrF k now c M)) := by
        intro v hv
        have s169 : ∀ b : Int32, onF b = b → upd (upd M (c + 3) v) (c + 2) b = tm0 M c on (if was = 0 then 0 else tmL now M c) (tmW M c) → yP (xg xs) (d + 1) 400 169 [(0, .ref 58), (2, .int (nI c)), (3, .int on)] [.int b, .int (nI (c + 2)), .ref 98] (y_sa m 98 (upd M (c + 3) v)) (fun r m' => r = none ∧ m' = y_sa m 98 (tmrF k now c M)) := by
          intro b hb e
          refine w400_169 xs d _ _ _ _ _ _ (y_ci (c401 xs d _ b) (by omega) ⟨x 2 (by omega), ?_⟩)
          rw [n 2 (by omega), iv, hb, y_ss]
          refine s402 _ _ ?_
          unfold tmrF
          rw [if_pos k0, e, hon', ← hw]
        refine w400_137 xs d _ _ _ _ _ m _ ?_
        rw [a2, a3, n 3 (by omega), y_s1 m, hM, y_sa_a]
        have u3 : upd M (c + 3) v (c + 3) = v := by rw [upd_at, if_pos rfl]
        rw [u3]
        refine ⟨x 3 (by omega), fun z => ?_, fun z => ⟨x 3 (by omega), fun u => ?_, fun u => ?_⟩⟩
        · refine w400_168 xs d _ _ _ _ _ (s169 0 onF_z ?_)
          unfold tm0
          rw [hv, if_pos z, if_pos z]
        · refine w400_168 xs d _ _ _ _ _ (s169 0 onF_z ?_)
          have u := (i64_lt _ _).mp u
          rw [hv, if_neg z] at u
          unfold tm0
          rw [hv, if_neg z, if_neg z, if_pos u]
        · refine s169 1 onF_1 ?_
          have u : ¬ v < tmW M c := fun q => u ((i64_lt _ _).mpr q)
          rw [hv, if_neg z] at u
          unfold tm0
          rw [hv, if_neg z, if_neg z, if_neg u]
      rw [a3, hs]
      refine ⟨fun z => w400_136 xs d _ _ _ _ m _ (s137 0 (by rw [if_pos z])), fun z => ⟨fun w => w400_136 xs d _ _ _ _ m _ (s137 0 (by rw [if_neg z, if_pos w])), fun w => s137 _ (by rw [if_neg z, if_neg w])⟩⟩
  have s77 : ∀ (was l9 : Int32), was = onF (M (c + 4)) → l9 = onF (M (c + 2)) → yP (xg xs) (d + 1) 400 77 [(0, .ref 58), (1, .int (nI k)), (2, .int (nI c)), (3, .int on), (4, .int was), (5, .long (now.toInt64 - (M (c + 5)).toInt64)), (7, .long (tmW M c).toInt64)] [.int l9] m (fun r m' => r = none ∧ m' = y_sa m 98 (tmrF k now c M)) := by
    intro was l9 hw h9
    refine w400_77 xs d _ _ _ _ _ _ _ m _ ?_
    rw [a3, n 3 (by omega), hM]
    have t := tmL_r now M c
    refine ⟨x 3 (by omega), fun u => mid was l9 _ hw h9 ?_, fun u => mid was l9 _ hw h9 ?_⟩
    · rw [if_pos u] at t; exact t
    · rw [if_neg u] at t; exact t
  have s59 : ∀ (was : Int32), was = onF (M (c + 4)) → yP (xg xs) (d + 1) 400 59 [(0, .ref 58), (1, .int (nI k)), (2, .int (nI c)), (3, .int on), (4, .int was), (5, .long (now.toInt64 - (M (c + 5)).toInt64))] [.long (tmW M c).toInt64] m (fun r m' => r = none ∧ m' = y_sa m 98 (tmrF k now c M)) := by
    intro was hw
    refine w400_59 xs d _ _ _ _ _ _ m _ ?_
    rw [a2, n 2 (by omega), hM]
    refine ⟨x 2 (by omega), fun u => s77 was _ hw ?_, fun u => s77 was _ hw ?_⟩
    · unfold onF; rw [if_pos u]
    · unfold onF; rw [if_neg u]
  have s16 : ∀ (was : Int32), was = onF (M (c + 4)) → yP (xg xs) (d + 1) 400 16 [(0, .ref 58), (1, .int (nI k)), (2, .int (nI c)), (3, .int on)] [.int was] m (fun r m' => r = none ∧ m' = y_sa m 98 (tmrF k now c M)) := by
    intro was hw
    refine w400_16 xs d _ _ _ _ m _ ?_
    rw [a1, a5, n 1 (by omega), n 5 (by omega), hM, hnow]
    refine ⟨x 5 (by omega), x 1 (by omega), fun u => ⟨x 1 (by omega), ?_⟩, fun u => ?_⟩
    · rw [(tmW_r M c).1 u]; exact s59 was hw
    · rw [(tmW_r M c).2 u]; exact s59 was hw
  refine w400_0 xs d _ _ _ m _ ?_
  rw [a4, n 4 (by omega), hM]
  refine ⟨x 4 (by omega), fun u => s16 _ ?_, fun u => s16 _ ?_⟩
  · unfold onF; rw [if_pos u]
  · unfold onF; rw [if_neg u]
