/-! STANDARD BLOCKS: the reference, all -/
theorem c402 (xs : List Int32) (d : Nat) (m : yM) {c k : Nat} (h : c + 5 < 8192) (hk : k = 3 ∨ k = 4) : yC (xg xs) (d + 1) 402 [.ref 58, .int (nI k), .int (nI c), .int (onF (m.1 98 c))] m (fun r m' => r = none ∧ m' = y_sa m 98 (ctF k c (m.1 98))) := by
  have a1 : nI c + 1 = nI (c + 1) := nI_add c 1
  have a2 : nI c + 2 = nI (c + 2) := nI_add c 2
  have a3 : nI c + 3 = nI (c + 3) := nI_add c 3
  have a4 : nI c + 4 = nI (c + 4) := nI_add c 4
  have a5 : nI c + 5 = nI (c + 5) := nI_add c 5
  have x : ∀ j, j ≤ 5 → x_in (nI (c + j)) 8192 = true := fun j hj => x_in_nI (by omega) (by decide)
  have n : ∀ j, j ≤ 5 → (nI (c + j)).toNatClampNeg = c + j := fun j hj => nI_clamp (by omega)
  have e3 : nI k = 3 ↔ k = 3 := nI_eq (b := 3) (by omega) (by omega)
  have iv : ∀ (b : Int32), (if b = 0 then (0 : Int32) else 1) = onF b := fun _ => rfl
  generalize hon : onF (m.1 98 c) = on
  generalize hM : m.1 98 = M
  have hon' : onF (M c) = on := by rw [← hM]; exact hon
  have oo : onF on = on := by rw [← hon]; exact onF_o _
  have s185 : ∀ b v : Int32, v = ctC k c M → b = (if k = 3 then (if ctC k c M < M (c + 2) then 0 else 1) else (if 0 < ctC k c M then 0 else 1)) → yP (xg xs) (d + 1) 402 185 [(0, .ref 58), (2, .int (nI c)), (3, .int on), (6, .int v)] [] (y_sa m 98 (upd M (c + 3) b)) (fun r m' => r = none ∧ m' = y_sa m 98 (ctF k c M)) := by
    intro b v hv hb
    refine w402_185 xs d _ _ _ _ _ ?_
    rw [a4, a5, n 4 (by omega), n 5 (by omega), y_ss]
    refine ⟨x 4 (by omega), y_ci (c401 xs d _ on) (by omega) ⟨x 5 (by omega), rfl, ?_⟩⟩
    rw [iv, oo, y_ss]
    unfold ctF
    rw [← hb, ← hv, hon', upd_c M (by omega : ¬ c + 3 = c + 4)]
  have s162 : ∀ v : Int32, ¬ k = 3 → v = ctC k c M → yP (xg xs) (d + 1) 402 162 [(0, .ref 58), (2, .int (nI c)), (3, .int on)] [.int v] m (fun r m' => r = none ∧ m' = y_sa m 98 (ctF k c M)) := by
    intro v k3 hv
    refine w402_162 xs d _ _ _ m _ ?_
    rw [a3]
    refine ⟨fun u => ?_, fun u => ?_⟩
    · refine w402_181 xs d _ _ _ _ _ m _ (y_ci (c401 xs d m 0) (by omega) ⟨x 3 (by omega), ?_⟩)
      rw [n 3 (by omega), iv, onF_z, y_s1, hM]
      exact s185 0 v hv (by rw [if_neg k3, ← hv, if_pos u])
    · refine w402_181 xs d _ _ _ _ _ m _ (y_ci (c401 xs d m 1) (by omega) ⟨x 3 (by omega), ?_⟩)
      rw [n 3 (by omega), iv, onF_1, y_s1, hM]
      exact s185 1 v hv (by rw [if_neg k3, ← hv, if_neg u])
  have s86 : ∀ v : Int32, k = 3 → v = ctC k c M → yP (xg xs) (d + 1) 402 86 [(0, .ref 58), (2, .int (nI c)), (3, .int on)] [.int v] m (fun r m' => r = none ∧ m' = y_sa m 98 (ctF k c M)) := by
    intro v k3 hv
    refine w402_86 xs d _ _ _ m _ ?_
    rw [a2, a3, n 2 (by omega), hM]
    refine ⟨x 2 (by omega), fun u => ?_, fun u => ?_⟩
    · refine w402_113 xs d _ _ _ _ _ m _ (y_ci (c401 xs d m 0) (by omega) ⟨x 3 (by omega), ?_⟩)
      rw [n 3 (by omega), iv, onF_z, y_s1, hM]
      exact s185 0 v hv (by rw [if_pos k3, ← hv, if_pos u])
    · refine w402_113 xs d _ _ _ _ _ m _ (y_ci (c401 xs d m 1) (by omega) ⟨x 3 (by omega), ?_⟩)
      rw [n 3 (by omega), iv, onF_1, y_s1, hM]
      exact s185 1 v hv (by rw [if_pos k3, ← hv, if_neg u])
  have s34 : ∀ was b : Int32, was = onF (M (c + 5)) → b = onF (M (c + 1)) → yP (xg xs) (d + 1) 402 34 [(0, .ref 58), (1, .int (nI k)), (2, .int (nI c)), (3, .int on), (4, .int was)] [.int b] m (fun r m' => r = none ∧ m' = y_sa m 98 (ctF k c M)) := by
    intro was b hw hb
    refine w402_34 xs d _ _ _ _ _ m _ ?_
    rw [a2, a4, n 2 (by omega), n 4 (by omega), hM]
    refine ⟨x 4 (by omega), fun z => ⟨fun u => ⟨fun v => ?_, fun v => ⟨fun w => ?_, fun w => ⟨fun q => ?_, fun q => ?_⟩⟩⟩, fun u => ⟨x 2 (by omega), ?_⟩⟩, fun z => ⟨fun u => ⟨fun v => ?_, fun v => ⟨fun w => ?_, fun w => ⟨fun q => ?_, fun q => ?_⟩⟩⟩, fun u => ?_⟩⟩
    · have k3 : ¬ k = 3 := fun q => z (e3.mpr q)
      refine w402_160 xs d _ _ _ m _ (s162 _ k3 ?_)
      unfold ctC
      rw [if_pos (hb.symm.trans u), hon', if_neg (fun y => y.1 v)]
    · have k3 : ¬ k = 3 := fun q => z (e3.mpr q)
      refine w402_160 xs d _ _ _ m _ (s162 _ k3 ?_)
      unfold ctC
      rw [if_pos (hb.symm.trans u), hon', if_neg (fun y => w (hw.trans y.2))]
    · have k3 : ¬ k = 3 := fun q => z (e3.mpr q)
      refine w402_160 xs d _ _ _ m _ (s162 _ k3 ?_)
      unfold ctC
      rw [if_pos (hb.symm.trans u), hon', if_pos ⟨v, hw.symm.trans w⟩, if_neg k3, if_pos q]
    · have k3 : ¬ k = 3 := fun q => z (e3.mpr q)
      refine s162 _ k3 ?_
      unfold ctC
      rw [if_pos (hb.symm.trans u), hon', if_pos ⟨v, hw.symm.trans w⟩, if_neg k3, if_neg q, Int32.sub_eq_add_neg]
    · have k3 : ¬ k = 3 := fun q => z (e3.mpr q)
      refine s162 _ k3 ?_
      unfold ctC
      rw [if_neg (fun y => u (hb.trans y)), if_neg k3]
    · have k3 := e3.mp z
      refine w402_84 xs d _ _ _ m _ (s86 _ k3 ?_)
      unfold ctC
      rw [if_pos (hb.symm.trans u), hon', if_neg (fun y => y.1 v)]
    · have k3 := e3.mp z
      refine w402_84 xs d _ _ _ m _ (s86 _ k3 ?_)
      unfold ctC
      rw [if_pos (hb.symm.trans u), hon', if_neg (fun y => w (hw.trans y.2))]
    · have k3 := e3.mp z
      refine w402_84 xs d _ _ _ m _ (s86 _ k3 ?_)
      unfold ctC
      rw [if_pos (hb.symm.trans u), hon', if_pos ⟨v, hw.symm.trans w⟩, if_pos k3, if_pos q]
    · have k3 := e3.mp z
      refine s86 _ k3 ?_
      unfold ctC
      rw [if_pos (hb.symm.trans u), hon', if_pos ⟨v, hw.symm.trans w⟩, if_pos k3, if_neg q]
    · have k3 := e3.mp z
      refine s86 _ k3 ?_
      unfold ctC
      rw [if_neg (fun y => u (hb.trans y)), if_pos k3]
  have s16 : ∀ was : Int32, was = onF (M (c + 5)) → yP (xg xs) (d + 1) 402 16 [(0, .ref 58), (1, .int (nI k)), (2, .int (nI c)), (3, .int on)] [.int was] m (fun r m' => r = none ∧ m' = y_sa m 98 (ctF k c M)) := by
    intro was hw
    refine w402_16 xs d _ _ _ _ m _ ?_
    rw [a1, n 1 (by omega), hM]
    refine ⟨x 1 (by omega), fun u => s34 was _ hw ?_, fun u => s34 was _ hw ?_⟩
    · unfold onF; rw [if_pos u]
    · unfold onF; rw [if_neg u]
  refine w402_0 xs d _ _ _ m _ ?_
  rw [a5, n 5 (by omega), hM]
  refine ⟨x 5 (by omega), fun u => s16 _ ?_, fun u => s16 _ ?_⟩
  · unfold onF; rw [if_pos u]
  · unfold onF; rw [if_neg u]
theorem c399 (xs : List Int32) (d : Nat) (m : yM) {c k : Nat} (h : c + szK k ≤ 8192) (hk : k < 9) : yC (xg xs) (d + 2) 399 [.ref 58, .int (nI k), .int (nI c)] m (fun r m' => r = none ∧ m' = y_sa m 98 (bkF k (m.1 58 64) c (m.1 98))) := by
  have a1 : nI c + 1 = nI (c + 1) := nI_add c 1
  have a2 : nI c + 2 = nI (c + 2) := nI_add c 2
  have e3 : (3 : Int32) ≤ nI k ↔ 3 ≤ k := nI_leI (a := 3) (by omega) (by omega)
  have e5 : (5 : Int32) ≤ nI k ↔ 5 ≤ k := nI_leI (a := 5) (by omega) (by omega)
  have e7 : (7 : Int32) ≤ nI k ↔ 7 ≤ k := nI_leI (a := 7) (by omega) (by omega)
  have f5 : nI k = 5 ↔ k = 5 := nI_eq (b := 5) (by omega) (by omega)
  have f7 : nI k = 7 ↔ k = 7 := nI_eq (b := 7) (by omega) (by omega)
  have iv : ∀ (b : Int32), (if b = 0 then (0 : Int32) else 1) = onF b := fun _ => rfl
  have h2 : c + 2 < 8192 := by
    unfold szK at h
    split at h <;> omega
  have x : ∀ j, j ≤ 2 → x_in (nI (c + j)) 8192 = true := fun j hj => x_in_nI (by omega) (by decide)
  have n : ∀ j, j ≤ 2 → (nI (c + j)).toNatClampNeg = c + j := fun j hj => nI_clamp (by omega)
  have s14 : yP (xg xs) (d + 2) 399 14 [(0, .ref 58), (1, .int (nI k)), (2, .int (nI c))] [.int (onF (m.1 98 c))] m (fun r m' => r = none ∧ m' = y_sa m 98 (bkF k (m.1 58 64) c (m.1 98))) := by
    unfold bkF
    refine w399_14 xs (d + 1) _ _ _ m _ ⟨fun z3 => ⟨fun z5 => ⟨fun z7 => ?_, fun z7 => ?_⟩, fun z5 => ?_⟩, fun z3 => ?_⟩
    · have k7 := e7.mp z7
      rw [if_neg (by omega), if_neg (by omega), if_neg (by omega), a1, n 1 (by omega)]
      have s221 : ∀ b : Int32, onF b = b → srF k c (m.1 98) = upd (m.1 98) (c + 2) b → yP (xg xs) (d + 2) 399 221 [] [.int b, .int (nI (c + 2)), .ref 98] m (fun r m' => r = none ∧ m' = y_sa m 98 (srF k c (m.1 98))) := by
        intro b hb e
        refine w399_221 xs (d + 1) _ _ m _ (y_ci (c401 xs d m b) (by omega) ⟨x 2 (by omega), rfl, ?_⟩)
        rw [n 2 (by omega), iv, hb, e, y_s1]
      have s165 : yP (xg xs) (d + 2) 399 165 [(0, .ref 58), (1, .int (nI k)), (2, .int (nI c)), (3, .int (onF (m.1 98 c))), (4, .int (onF (m.1 98 (c + 1))))] [.int (onF (m.1 98 (c + 2)))] m (fun r m' => r = none ∧ m' = y_sa m 98 (srF k c (m.1 98))) := by
        refine w399_165 xs (d + 1) _ _ _ _ _ m _ ?_
        rw [a2]
        refine ⟨fun z => ⟨fun u => ?_, fun u => ⟨fun v => ?_, fun v => ⟨fun w => ?_, fun w => ?_⟩⟩⟩, fun z => ⟨fun u => ?_, fun u => ⟨fun v => ?_, fun v => ⟨fun w => ?_, fun w => ?_⟩⟩⟩⟩
        · exact w399_220 xs (d + 1) _ m _ (s221 0 onF_z (by unfold srF; rw [if_neg (fun q => z (f7.mpr q)), if_neg (fun q => u q.1)]))
        · exact w399_216 xs (d + 1) _ m _ (s221 1 onF_1 (by unfold srF; rw [if_neg (fun q => z (f7.mpr q)), if_pos ⟨u, Or.inl v⟩]))
        · exact w399_220 xs (d + 1) _ m _ (s221 0 onF_z (by unfold srF; rw [if_neg (fun q => z (f7.mpr q)), if_neg (fun q => q.2.elim (fun y => y v) (fun y => y w))]))
        · exact w399_216 xs (d + 1) _ m _ (s221 1 onF_1 (by unfold srF; rw [if_neg (fun q => z (f7.mpr q)), if_pos ⟨u, Or.inr w⟩]))
        · exact w399_194 xs (d + 1) _ m _ (s221 1 onF_1 (by unfold srF; rw [if_pos (f7.mp z), if_pos (Or.inl u)]))
        · exact w399_198 xs (d + 1) _ m _ (s221 0 onF_z (by unfold srF; rw [if_pos (f7.mp z), if_neg (fun q => q.elim (fun y => y u) (fun y => v y.1))]))
        · exact w399_198 xs (d + 1) _ m _ (s221 0 onF_z (by unfold srF; rw [if_pos (f7.mp z), if_neg (fun q => q.elim (fun y => y u) (fun y => y.2 w))]))
        · exact w399_194 xs (d + 1) _ m _ (s221 1 onF_1 (by unfold srF; rw [if_pos (f7.mp z), if_pos (Or.inr ⟨v, w⟩)]))
      have s147 : yP (xg xs) (d + 2) 399 147 [(0, .ref 58), (1, .int (nI k)), (2, .int (nI c)), (3, .int (onF (m.1 98 c)))] [.int (onF (m.1 98 (c + 1)))] m (fun r m' => r = none ∧ m' = y_sa m 98 (srF k c (m.1 98))) := by
        refine w399_147 xs (d + 1) _ _ _ _ m _ ?_
        rw [a2, n 2 (by omega)]
        refine ⟨x 2 (by omega), fun u => ?_, fun u => ?_⟩
        · have e : onF (m.1 98 (c + 2)) = 0 := onF_0.mpr u
          rw [e] at s165; exact s165
        · have e : onF (m.1 98 (c + 2)) = 1 := if_neg u
          rw [e] at s165; exact s165
      refine ⟨x 1 (by omega), fun u => ?_, fun u => ?_⟩
      · have e : onF (m.1 98 (c + 1)) = 0 := onF_0.mpr u
        rw [e] at s147; exact s147
      · have e : onF (m.1 98 (c + 1)) = 1 := if_neg u
        rw [e] at s147; exact s147
    · have k5 := e5.mp z5
      have k7 : ¬ 7 ≤ k := fun q => z7 (e7.mpr q)
      rw [if_neg (by omega), if_neg (by omega), if_pos (by omega), a2, n 2 (by omega)]
      have s112 : ∀ b : Int32, onF b = b → egF k c (m.1 98) = upd (upd (m.1 98) (c + 1) b) (c + 2) (onF (m.1 98 c)) → yP (xg xs) (d + 2) 399 112 [(0, .ref 58), (2, .int (nI c)), (3, .int (onF (m.1 98 c)))] [.int b, .int (nI (c + 1)), .ref 98] m (fun r m' => r = none ∧ m' = y_sa m 98 (egF k c (m.1 98))) := by
        intro b hb e
        refine w399_112 xs (d + 1) _ _ _ _ m _ (y_ci (c401 xs d m b) (by omega) ⟨x 1 (by omega), y_ci (c401 xs d _ _) (by omega) ?_⟩)
        rw [a2]
        refine ⟨x 2 (by omega), rfl, ?_⟩
        rw [n 1 (by omega), n 2 (by omega), iv, iv, hb, onF_o, e, y_s1 m, y_ss]
      have s67 : yP (xg xs) (d + 2) 399 67 [(0, .ref 58), (1, .int (nI k)), (2, .int (nI c)), (3, .int (onF (m.1 98 c)))] [.int (onF (m.1 98 (c + 2)))] m (fun r m' => r = none ∧ m' = y_sa m 98 (egF k c (m.1 98))) := by
        refine w399_67 xs (d + 1) _ _ _ _ m _ ?_
        rw [a1]
        refine ⟨fun z => ⟨fun u => ?_, fun u => ⟨fun v => ?_, fun v => ?_⟩⟩, fun z => ⟨fun u => ?_, fun u => ⟨fun v => ?_, fun v => ?_⟩⟩⟩
        · exact w399_111 xs (d + 1) _ _ _ m _ (s112 0 onF_z (by unfold egF; rw [if_neg (fun q => z (f5.mpr q)), if_neg (fun q => u q.1)]))
        · exact w399_111 xs (d + 1) _ _ _ m _ (s112 0 onF_z (by unfold egF; rw [if_neg (fun q => z (f5.mpr q)), if_neg (fun q => q.2 v)]))
        · exact s112 1 onF_1 (by unfold egF; rw [if_neg (fun q => z (f5.mpr q)), if_pos ⟨u, v⟩])
        · exact w399_94 xs (d + 1) _ _ _ m _ (s112 0 onF_z (by unfold egF; rw [if_pos (f5.mp z), if_neg (fun q => q.1 u)]))
        · exact w399_94 xs (d + 1) _ _ _ m _ (s112 0 onF_z (by unfold egF; rw [if_pos (f5.mp z), if_neg (fun q => v q.2)]))
        · exact s112 1 onF_1 (by unfold egF; rw [if_pos (f5.mp z), if_pos ⟨u, v⟩])
      refine ⟨x 2 (by omega), fun u => ?_, fun u => ?_⟩
      · have e : onF (m.1 98 (c + 2)) = 0 := onF_0.mpr u
        rw [e] at s67; exact s67
      · have e : onF (m.1 98 (c + 2)) = 1 := if_neg u
        rw [e] at s67; exact s67
    · have k3 := e3.mp z3
      have k5 : ¬ 5 ≤ k := fun q => z5 (e5.mpr q)
      unfold szK at h
      rw [if_pos (by omega)] at h
      rw [if_neg (by omega), if_pos (by omega)]
      exact yC.mono (by omega) (fun _ _ q => ⟨q.1, rfl, q.2⟩) (c402 xs d m (by omega) (by omega))
    · have k3 : ¬ 3 ≤ k := fun q => z3 (e3.mpr q)
      unfold szK at h
      rw [if_pos (by omega)] at h
      rw [if_pos (by omega)]
      exact yC.mono (by omega) (fun _ _ q => ⟨q.1, rfl, q.2⟩) (c400 xs d m (by omega) (by omega))
  have n0 : (nI c).toNatClampNeg = c := nI_clamp (by omega)
  refine w399_0 xs (d + 1) _ _ m _ ?_
  rw [n0]
  refine ⟨x_in_nI (by omega) (by decide), fun u => ?_, fun u => ?_⟩
  · have e : onF (m.1 98 c) = 0 := onF_0.mpr u
    rw [e] at s14; exact s14
  · have e : onF (m.1 98 c) = 1 := if_neg u
    rw [e] at s14; exact s14
