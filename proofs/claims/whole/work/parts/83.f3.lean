/-! RUN: both -/
theorem c395s (xs : List Int32) (D : Nat) {Us : Nat → List IT} {bs : Nat → Option Nat} {U : Nat} {st : Nat → Nat} {m : yM} {now : Int32} (hc : RCd Us bs U st m) (hU : 0 < U) (hnow : m.1 58 64 = now) {f : Nat} {R : XR} (hs : RSt m [] (m.1 98) 0) (h : exU Us bs now f (U - 1) 0 0 [] (m.1 98) 0 = some R) : yC (xg xs) (D + 20) 395 [.ref 58, .int (nI (U - 1)), .int 0] m (reQ m R) := by
  have U16 := hc.1
  have k := c395 xs D hc hnow f (U - 1) 0 0 [] (m.1 98) 0 R m h (by omega) (by omega) (by omega) (KX.re m) hs
  have call : yC (xg xs) (D + (U - 1) + 4) 395 [.ref 58, .int (nI (U - 1)), .int (nI 0)] m (reQ m R) := by
    refine w395_0 xs (D + (U - 1) + 3) _ _ m _ ?_
    rw [nI_1, nI_clamp (by omega), nI_clamp (by omega), (hc.2.2.1 (U - 1 + 1) (by omega)).2, (hc.2.2.1 (U - 1) (by omega)).2]
    exact ⟨x_in_nI (by omega) (by decide), x_in_nI (by omega) (by decide), k⟩
  exact yC.mono (by omega) (fun _ _ q => q) call
theorem op_run (hP : RunOk) (xs : List Int32) (D : Nat) (ticks : Int32) : opOk xs (D + 21) (InT RoM) (InT RoM) 242 394 [.int ticks] := by
  rintro m ⟨⟨k, h1, h2, h3, h4⟩, ho⟩
  have same : ∀ v : Int32, yC (xg xs) (D + 21) 394 [.ref 58, .int ticks] m (fun r2 m2 => r2 = some (.int v) ∧ m2 = y_si m 58 0 0) → yC (xg xs) (D + 21) 394 [.ref 58, .int ticks] m (fun r2 m2 => r2 = some (.int v) ∧ InT RoM m2) := fun v h => yC.mono (Nat.le_refl _) (fun r m2 q => ⟨q.1, by rw [q.2]; exact ⟨⟨k, h1, h2, h3, h4⟩, RoM.cl m _ (Sm.si (by decide)) ho⟩⟩) h
  have e61 : m.1 58 61 = m.1 0 12 := ho.1.2.2.1.symm
  refine w242_0 xs (D + 20) _ m _ ⟨fun z => ⟨_, rfl, same _ ?_⟩, fun z => ⟨fun t0 => ⟨_, rfl, same _ ?_⟩, fun t0 => ⟨fun t1 => ?_, fun t1 => ⟨_, rfl, same _ ?_⟩⟩⟩⟩
  · exact w394_0 xs (D + 20) _ m _ ⟨fun _ => ⟨rfl, rfl⟩, fun w => absurd (e61.trans z) w⟩
  · exact w394_0 xs (D + 20) _ m _ ⟨fun _ => ⟨rfl, rfl⟩, fun _ => ⟨fun _ => ⟨rfl, rfl⟩, fun w => absurd t0 w⟩⟩
  · obtain ⟨m0, T, F, s, B, hb, ob, cm, rm⟩ := ho.2.2.2.2 z
    obtain ⟨-, -, h16, hz, -⟩ := oRl_i ob
    obtain ⟨l1, l2, l3⟩ := (hb.p h16).l
    obtain ⟨J, eJ, ru, r73, r62, r74, r94⟩ := rm
    have rm : RMm F s B m := ⟨J, eJ, ru, r73, r62, r74, r94⟩
    have e7 : m.1 35 7 - 1 = nI (s.1.1.length - 1) := by rw [cm.2.2.2.1.2.1]; exact nI_m l1
    have e23 : m.1 58 23 - 1 = nI (s.1.1.length - 1) := by rw [ru.1.b.1.2.2.2.1]; exact nI_m l1
    have b41 := (cm.2.2.2.2 (s.1.1.length - 1) (by omega)).2
    have b94 := r94 (s.1.1.length - 1) (by omega)
    have z32 : (50000 : Int32).toInt = 50000 := rfl
    have z64 : (50000 : Int64).toInt = 50000 := rfl
    have c1 : m.1 41 (s.1.1.length - 1) ≤ 50000 ↔ B (s.1.1.length - 1) ≤ 50000 := by rw [Int32.le_iff_toInt_le, b41, z32]
    have c2 : lg_cmp (m.2 94 (s.1.1.length - 1)) 50000 ≤ 0 ↔ B (s.1.1.length - 1) ≤ 50000 := by rw [lg_cmp_le, Int64.le_iff_toInt_le, b94, z64]
    have n1 : ¬ m.1 58 61 = 0 := fun w => z (e61.symm.trans w)
    rw [e7, nI_clamp (by omega)]
    refine ⟨x_in_nI (by omega) (by decide), fun u => ?_, fun u => ⟨_, rfl, same _ ?_⟩⟩
    rotate_left
    · refine w394_0 xs (D + 20) _ m _ ⟨fun w => absurd w n1, fun _ => ⟨fun w => absurd w t0, fun _ => ⟨fun _ => ?_, fun w => absurd t1 w⟩⟩⟩
      rw [e23, nI_clamp (by omega)]
      exact ⟨x_in_nI (by omega) (by decide), fun w => absurd (c1.mpr (c2.mp w)) u, fun _ => ⟨rfl, rfl⟩⟩
    · obtain ⟨w22, w21, w53⟩ := ho.1.now z
      obtain ⟨f, R, eR, hR1, hR2⟩ := hP m0 T F s B (m.1 52 1 + ticks) (m.1 53) hb ob (c1.mp u)
      obtain ⟨R', eR', gR⟩ := exU_g _ _ _ f _ _ _ _ (m.1 53) (m.1 98) 0 R w53 eR
      refine yC.mono (by omega) (fun r m1 q => ?_) (c243 xs (D + 13) (CCd_of hb ob cm) l1 eR hR1 hR2)
      obtain ⟨ky, q⟩ := q
      have g1 : ∀ a i, ¬ (52 < a ∧ a < 58) → ¬ (a = 52 ∧ (i = 1 ∨ i = 2 ∨ (8 < i ∧ i < 14))) → m1.1 a i = m.1 a i := fun a i x y => by rw [ky.2 a i x (by omega), y_si_at, if_neg (by omega)]
      have ky2 : m1.2 = m.2 := ky.1
      have now1 : m1.1 52 1 = m.1 52 1 + ticks := by rw [ky.2 52 1 (by omega) (by omega), y_si_same]
      -- the reference from there
      generalize hmr : y_si (y_si (y_si (y_si m1 58 0 0) 58 64 (m1.1 58 64 + ticks)) 58 65 0) 58 67 0 = mr
      have gr : ∀ a i, ¬ (a = 58 ∧ (i = 0 ∨ i = 64 ∨ i = 65 ∨ i = 67)) → mr.1 a i = m1.1 a i := fun a i x => by
        rw [← hmr]
        simp only [y_si_at]
        rw [if_neg (by omega), if_neg (by omega), if_neg (by omega), if_neg (by omega)]
      have gm : ∀ a i, 57 < a → ¬ (a = 58 ∧ (i = 0 ∨ i = 64 ∨ i = 65 ∨ i = 67)) → mr.1 a i = m.1 a i := fun a i x y => (gr a i y).trans (g1 a i (by omega) (by omega))
      have r2 : mr.2 = m.2 := by rw [← hmr]; exact ky2
      have rmr : RMm F s B mr := rm.g (fun a i x y => gm a i (by omega) (by omega)) (fun i hi => gm 58 i (by omega) (by omega)) (by rw [r2])
      have n64 : mr.1 58 64 = m.1 52 1 + ticks := by
        rw [← hmr, y_si_at, if_neg (by omega), y_si_at, if_neg (by omega), y_si_same, g1 58 64 (by omega) (by omega), w21]
      have M98 : mr.1 98 = m.1 98 := funext fun i => gm 98 i (by omega) (by omega)
      have sr : RSt mr [] (mr.1 98) 0 := ⟨rfl, by rw [← hmr, y_si_same, nI_0.symm]; rfl, by simp, trivial, by rw [← hmr, y_si_at, if_neg (by omega), y_si_same, nI_0]⟩
      have cr := c395s xs D (RCd_of hb ob rmr) l1 n64 sr (R := R') (f := f) (by rw [M98]; exact eR')
      have ref : ∀ {P : Option Value → yM → Prop}, (∀ (c : Int32) m2, reQ mr R' (some (.int c)) m2 → (c = 0 → P (some (.int (m2.1 58 65))) m2) ∧ (¬ c = 0 → P (some (.int c)) m2)) → yC (xg xs) (D + 21) 394 [.ref 58, .int ticks] m1 P := by
        intro P hP
        refine w394_0 xs (D + 20) _ m1 _ ⟨fun w => absurd ((g1 58 61 (by omega) (by omega)).symm.trans w) n1, fun _ => ⟨fun w => absurd w t0, fun _ => ⟨fun _ => ?_, fun w => absurd t1 w⟩⟩⟩
        rw [g1 58 23 (by omega) (by omega), e23, nI_clamp (by omega), ky2, hmr]
        refine ⟨x_in_nI (by omega) (by decide), fun _ => ?_, fun w => absurd (c2.mpr (c1.mp u)) w⟩
        refine yC.mono (Nat.le_refl _) (fun r m2 w => ?_) cr
        rcases R' with ⟨S', N', n'⟩ | ⟨c, N', n'⟩
        · obtain ⟨a, b, c⟩ := w
          subst b
          exact ⟨0, rfl, hP 0 m2 ⟨a, rfl, c⟩⟩
        · obtain ⟨a, b, c⟩ := w
          subst b
          exact ⟨_, rfl, hP _ m2 ⟨a, rfl, c⟩⟩
      have fin : ∀ (m2 : yM) (n' : Nat) (N N' : Nat → Int32), KX mr m2 → m1.1 53 = N → m1.1 52 2 = nI n' → m2.1 98 = N' → m2.1 58 65 = nI n' → Mg N N' → InT RoM m2 := by
        intro m2 n' N N' kx a1 a2 a3 a4 ag
        have g : ∀ a i, ¬ (52 < a ∧ a < 58) → ¬ (a = 52 ∧ (i = 1 ∨ i = 2 ∨ (8 < i ∧ i < 14))) → ¬ a = 98 → ¬ a = 99 → ¬ (a = 58 ∧ (i = 0 ∨ i = 64 ∨ i = 65 ∨ i = 67)) → m2.1 a i = m.1 a i := fun a i x1 x2 x3 x4 x5 => by rw [kx.2 a i x3 x4 (by omega), gr a i x5, g1 a i x1 x2]
        refine ⟨⟨k, ?_, ?_, h3, fun i hi => ?_⟩, ho.g (fun a i x => g a i (by omega) (by omega) (by omega) (by omega) (by omega)) (fun i x => g 0 i (by omega) (by omega) (by omega) (by omega) (by omega)) (fun i x1 x2 x3 x4 x5 x6 => g 58 i (by omega) (by omega) (by omega) (by omega) (by omega)) (by rw [kx.1, r2]) (fun _ => ⟨?_, ?_, fun i hi => ?_⟩)⟩
        · rw [g 0 9 (by omega) (by omega) (by omega) (by omega) (by omega)]; exact h1
        · rw [g 58 2 (by omega) (by omega) (by omega) (by omega) (by omega)]; exact h2
        · rw [g 1 i (by omega) (by omega) (by omega) (by omega) (by omega), g 59 i (by omega) (by omega) (by omega) (by omega) (by omega)]; exact h4 i hi
        · rw [a4, kx.2 52 2 (by omega) (by omega) (by omega), gr 52 2 (by omega), a2]
        · rw [kx.2 52 1 (by omega) (by omega) (by omega), gr 52 1 (by omega), now1, kx.2 58 64 (by omega) (by omega) (by omega), n64]
        · rw [a3, kx.2 53 i (by omega) (by omega) (by omega), gr 53 i (by omega), a1]; exact ag i hi
      rcases R with ⟨S1, N1, n1'⟩ | ⟨c1', N1, n1'⟩
      · obtain ⟨N2, rfl, ag⟩ := gR
        obtain ⟨rfl, q2, q3⟩ := q
        refine ⟨_, rfl, _, rfl, ref (fun c m2 w => ?_)⟩
        obtain ⟨a, b, s2⟩ := w
        have c0 : c = 0 := by simpa using b
        refine ⟨fun _ => ⟨by rw [s2.2.2.2.2], fin m2 n1' N1 N2 a q2 q3 s2.1 s2.2.2.2.2 ag⟩, fun w => absurd c0 w⟩
      · obtain ⟨N2, rfl, ag⟩ := gR
        obtain ⟨rfl, q2, q3⟩ := q
        refine ⟨_, rfl, _, rfl, ref (fun c m2 w => ?_)⟩
        obtain ⟨a, b, b2, b3, b4⟩ := w
        have ec : c = c1' := by simpa using b
        subst ec
        exact ⟨fun w => absurd w b2, fun _ => ⟨rfl, fin m2 n1' N1 N2 a q2 q3 b3 b4 ag⟩⟩
  · exact w394_0 xs (D + 20) _ m _ ⟨fun _ => ⟨rfl, rfl⟩, fun _ => ⟨fun _ => ⟨rfl, rfl⟩, fun _ => ⟨fun w => absurd w t1, fun _ => ⟨rfl, rfl⟩⟩⟩⟩
