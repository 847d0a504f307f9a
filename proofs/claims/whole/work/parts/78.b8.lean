/-! THE REFERENCE'S WRITER: all units -/
theorem allC_app (F : List ND) (σ : RS) (N : Nat) : ∀ k b, ∃ D, allC F σ N (b + k) = allC F σ N b ++ D
  | 0, b => ⟨[], by rw [List.append_nil]; rfl⟩
  | k + 1, b => by
    obtain ⟨D, hD⟩ := allC_app F σ N k b
    exact ⟨D ++ unC F σ N (b + k), by show allC F σ N (b + k) ++ unC F σ N (b + k) = _; rw [hD, List.append_assoc]⟩
/-- the reference holds the code of all units -/
def RU (J : JV) (s : SU) (m : yM) : Prop := RW J s m ∧ RO J (allC J.2.2.1 s.1 186 s.1.1.length) m ∧ ((allC J.2.2.1 s.1 186 s.1.1.length).length ≤ 3000 → ∀ i, i ≤ s.1.1.length → m.1 93 i = nI (allC J.2.2.1 s.1 186 i).length)
theorem c367w (xs : List Int32) (d : Nat) {m0 : yM} {T : Nat} {J : JV} {s : SU} (hY : HY m0 T J.2.2.1 s) (h3 : inB s.1 3) (h16 : s.1.1.length ≤ 16) {m : yM} (h : RW J s m) {Q : Option Value → yM → Prop} (hk : ∀ m', RU J s m' → KU m m' → ((allC J.2.2.1 s.1 186 s.1.1.length).length ≤ 3000 → yP (xg xs) (d + 568) 367 79 [(0, .ref 58), (2, .int 0)] [] m' Q) ∧ (3000 < (allC J.2.2.1 s.1 186 s.1.1.length).length → Q none (y_si (y_si m' 58 3 50) 58 4 (plF J.2.2.1 0)))) : yP (xg xs) (d + 568) 367 0 [(0, .ref 58), (1, .int (nI (J.2.2.2 0)))] [] m Q := by
  have z0 : 0 < J.2.2.1.length := by
    have := hY.1.2.2.2.2.1.at
    omega
  have j0 := h.t.i z0
  have n23 : ∀ m1, RW J s m1 → m1.1 58 23 = nI s.1.1.length ∧ m1.1 58 3 = 0 := fun m1 h1 => ⟨h1.b.1.2.2.2.1, h1.b.1.1⟩
  have s66 : ∀ m1, RU J s m1 → KU m m1 → yP (xg xs) (d + 568) 367 66 [(0, .ref 58), (1, .int (nI (J.2.2.2 0)))] [] m1 Q := by
    intro m1 r1 k1
    obtain ⟨q1, q2⟩ := hk m1 r1 k1
    have hw := r1.1
    refine w367_66 xs (d + 567) _ m1 _ ?_
    rcases Nat.lt_or_ge 3000 (allC J.2.2.1 s.1 186 s.1.1.length).length with big | small
    · rw [(r1.2.1.2 big).2]
      refine yC.mono (by omega) (fun r m2 q => ⟨q.1, ?_⟩) (c323b xs (d + 566) m1 50 (J.2.2.2 0) j0)
      obtain ⟨-, e2⟩ := q
      rw [if_pos (n23 m1 hw).2, (hw.t.2.1 0 z0).2.2.1] at e2
      rw [e2]
      have f3 : (y_si (y_si m1 58 3 50) 58 4 (plF J.2.2.1 0)).1 58 3 = 50 := by rw [y_si_at, if_neg (by omega), y_si_same]
      refine w367_79 xs (d + 567) _ _ _ ⟨fun _ => q2 big, fun _ => ⟨fun _ => q2 big, fun w => ?_⟩⟩
      rw [f3] at w
      exact absurd w (by decide)
    · rw [(r1.2.1.1 small).2.1]
      refine yC.mono (Nat.le_refl _) (fun r m2 q => ⟨q.1, ?_⟩) (c323a xs (d + 567) m1 50 (nI (J.2.2.2 0)))
      rw [q.2]
      exact q1 small
  have lp : ∀ (k b : Nat) (m1 : yM), b + k = s.1.1.length → RW J s m1 → RO J (allC J.2.2.1 s.1 186 b) m1 → KU m m1 → (0 < b → ∀ i, i ≤ b → m1.1 93 i = nI (min (allC J.2.2.1 s.1 186 i).length 3000)) → yP (xg xs) (d + 568) 367 33 [(0, .ref 58), (1, .int (nI (J.2.2.2 0))), (2, .int (nI b))] [] m1 Q := by
    intro k
    induction k with
    | zero =>
      intro b m1 hb w1 o1 k1 st
      have hb : b = s.1.1.length := hb
      subst hb
      refine w367_33 xs (d + 567) _ _ m1 _ ?_
      rw [(n23 m1 w1).1]
      refine ⟨fun _ => s66 m1 ⟨w1, o1, fun hl i hi => ?_⟩ k1, fun w => absurd (nI_le (Nat.le_refl _) (by omega)) w⟩
      have le := allC_le J.2.2.1 s.1 186 (s.1.1.length - i) i
      rw [show i + (s.1.1.length - i) = s.1.1.length by omega] at le
      rw [st h3.1 i hi, Nat.min_eq_left (by omega)]
    | succ k ih =>
      intro b m1 hb w1 o1 k1 st
      have hb' : b < s.1.1.length := by omega
      refine w367_33 xs (d + 567) _ _ m1 _ ?_
      rw [(n23 m1 w1).1, (n23 m1 w1).2]
      refine ⟨fun w => ?_, fun _ => ⟨fun w => absurd rfl w, fun _ => ⟨fun w => ?_, fun w => ?_⟩⟩⟩
      · have := (nI_leI (by omega) (by omega)).mp w
        omega
      · have big : 3000 < (allC J.2.2.1 s.1 186 b).length := by
          rcases Nat.lt_or_ge 3000 (allC J.2.2.1 s.1 186 b).length with y | y
          · exact y
          · exact absurd (o1.z.mpr y) w
        obtain ⟨E, hE⟩ := allC_app J.2.2.1 s.1 186 (k + 1) b
        rw [hb] at hE
        refine s66 m1 ⟨w1, by rw [hE]; exact o1.big big E, fun hl => ?_⟩ k1
        rw [hE, List.length_append] at hl
        omega
      · have small := o1.z.mp w
        refine yC.mono (by omega) (fun r m2 q => ⟨q.1, ?_⟩) (c368 xs d hY h3 hb' w1 o1 small)
        obtain ⟨-, q1, q2, q3, q4, q5⟩ := q
        rw [nI_1]
        refine ih (b + 1) m2 (by omega) (w1.ku q5) q1 (k1.tr q5) (fun _ i hi => ?_)
        by_cases c1 : i = b + 1
        · rw [c1, q3]; rfl
        · by_cases c2 : i = b
          · rw [c2, q2]
          · rw [q4 i c2 c1]
            exact st (by omega) i (by omega)
  have s17 : yP (xg xs) (d + 568) 367 17 [(0, .ref 58), (1, .int (nI (J.2.2.2 0)))] [.int 0, .int 50, .ref 58] m Q := by
    refine w367_17 xs (d + 567) _ _ _ m _ (yC.mono (Nat.le_refl _) (fun r m1 q => ⟨q.1, ?_⟩) (c323a xs (d + 567) m 50 (nI (J.2.2.2 0))))
    obtain ⟨-, rfl⟩ := q
    have k1 : KU m1 (y_si (y_si m1 58 45 0) 58 50 0) := ⟨fun a i p q => by rw [y_si_at, if_neg (by omega), y_si_at, if_neg (by omega)], fun i p q _ _ => by rw [y_si_at, if_neg (by omega), y_si_at, if_neg (by omega)], rfl⟩
    refine lp s.1.1.length 0 _ (by omega) (h.ku k1) ⟨fun _ => ⟨by rw [y_si_at, if_neg (by omega), y_si_same]; rfl, by rw [y_si_same], fun i x hx => by cases hx⟩, fun w => absurd w (by show ¬ 3000 < 0; omega)⟩ k1 (fun w => absurd w (Nat.lt_irrefl _))
  refine w367_0 xs (d + 567) _ m _ ?_
  rw [(n23 m h).1]
  exact ⟨fun _ => s17, fun w => absurd (nI_le (b := 16) h16 (by omega)) w⟩
