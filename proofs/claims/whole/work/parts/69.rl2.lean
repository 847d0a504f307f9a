/-! BOTH READ: the tokens are well laid, the reference begins -/
theorem tkAt_5 (f : Nat → Nat) (n p : Nat) : (tkAt f n p).1 ≤ 5 := by
  unfold tkAt
  split
  · exact Nat.zero_le _
  · split
    · have := timT_K f n p (rn f (isDg 10) (n - (p + 2)) (p + 2)) (dv f 10 (n - (p + 2)) (p + 2) 0)
      omega
    · split
      · have := numT_K f n p (rn f (isDg 10) (n - p) p) (dv f 10 (n - p) p 0)
        omega
      · split
        · split
          · show 5 ≤ 5
            exact Nat.le_refl _
          · show 1 ≤ 5
            decide
        · split
          · have := plT_K f n p (rn f (isDg 10) (n - (p + 3)) (p + 3)) (dv f 10 (n - (p + 3)) (p + 3) 0)
            omega
          · have := sgT_K f n p
            omega
theorem tokN_5 (f : Nat → Nat) (n p : Nat) : (tokN f n p).1.1 ≤ 5 := by
  unfold tokN
  split
  · exact Nat.le_refl 5
  · exact tkAt_5 _ _ _
theorem tk_ok {m : yM} {f : Nat → Nat} {n T : Nat} {Ns : List (List Int32)} (hT : T ≤ 8192) (hE : isEnd f n T) (hL : ∀ i, i < T → ¬ isEnd f n i) (hA : ∀ i, i ≤ T → TkA m Ns f n i) : TKok m T := by
  refine ⟨hT, ?_, fun t ht => ?_⟩
  · obtain ⟨a1, a2⟩ := hA T (Nat.le_refl _)
    have n1 : ¬ (tokN f n (ps f n T)).1.1 = 1 := fun u => by rcases hE with y | y <;> omega
    rw [if_neg n1] at a2
    rcases hE with y | y
    · left
      rw [a2.1]
      unfold ckd
      rw [if_neg (by omega), if_neg (by omega), if_neg (by omega), if_neg (by omega)]
    · right
      refine ⟨?_, ?_⟩
      · rw [a2.1]
        unfold ckd
        rw [if_neg (by omega), if_neg (by omega), if_neg (by omega), if_pos y]
      · rw [a2.2]
        unfold cvl
        rw [if_neg (by omega)]
        have b : 1 ≤ (tokN f n (ps f n T)).1.2.1 ∧ (tokN f n (ps f n T)).1.2.1 ≤ 5 := by
          unfold tokN at y ⊢
          by_cases z : (blk f n 8192 (ps f n T)).2 = true
          · rw [if_pos z]
            show 1 ≤ 2 ∧ 2 ≤ 5
            decide
          · rw [if_neg z] at y ⊢
            exact tkAt_b y
        exact nI_ne0 (by omega) (by omega)
  · obtain ⟨a1, a2⟩ := hA t (by omega)
    have ne := hL t ht
    have cs : ∃ K, m.1 9 t = nI K ∧ K < 256 ∧ K ≠ 67 ∧ K ≠ 68 ∧ K ≠ 69 := by
      by_cases z1 : (tokN f n (ps f n t)).1.1 = 1
      · rw [if_pos z1] at a2
        obtain ⟨j, _, _, j3, _⟩ := a2
        by_cases y : j < 41
        · rw [if_pos y] at j3; exact ⟨j, j3, by omega, by omega, by omega, by omega⟩
        · rw [if_neg y] at j3; exact ⟨64, j3, by omega, by omega, by omega, by omega⟩
      · rw [if_neg z1] at a2
        have e1 := a2.1
        unfold ckd at e1
        by_cases z2 : (tokN f n (ps f n t)).1.1 = 2
        · rw [if_pos z2] at e1; exact ⟨65, e1, by omega, by omega, by omega, by omega⟩
        · rw [if_neg z2] at e1
          by_cases z3 : (tokN f n (ps f n t)).1.1 = 3
          · rw [if_pos z3] at e1; exact ⟨66, e1, by omega, by omega, by omega, by omega⟩
          · rw [if_neg z3] at e1
            by_cases z4 : (tokN f n (ps f n t)).1.1 = 4
            · rw [if_pos z4] at e1
              have y4 := z4
              unfold tokN at y4 e1
              by_cases z : (blk f n 8192 (ps f n t)).2 = true
              · rw [if_pos z] at y4
                have y4 : (5 : Nat) = 4 := y4
                omega
              · rw [if_neg z] at y4 e1
                obtain ⟨s, s1, s2⟩ := tkAt_s y4
                rw [s2] at e1
                have := sK_ge s1
                exact ⟨sK s, e1, by omega, by omega, by omega, by omega⟩
            · exfalso
              have z5 : ¬ (tokN f n (ps f n t)).1.1 = 5 := fun y => ne (Or.inr y)
              have z0 : ¬ (tokN f n (ps f n t)).1.1 = 0 := fun y => ne (Or.inl y)
              have le : (tokN f n (ps f n t)).1.1 ≤ 5 := tokN_5 f n (ps f n t)
              omega
    obtain ⟨K, k1, k2, k3, k4, k5⟩ := cs
    rw [k1]
    refine ⟨fun y => ?_, fun y => ?_, fun y => ?_⟩
    · exact k3 ((nI_eq (a := K) (b := 67) (by omega) (by decide)).mp y)
    · exact k4 ((nI_eq (a := K) (b := 68) (by omega) (by decide)).mp y)
    · exact k5 ((nI_eq (a := K) (b := 69) (by omega) (by decide)).mp y)
theorem NK.re (m : yM) : NK m m := ⟨fun _ _ _ _ => rfl, fun _ _ => rfl, rfl⟩
theorem rd_start {mT m : yM} {f : Nat → Nat} {n T : Nat} (hty : TY m f n) (h3 : m.1 58 3 = 0) (h5 : m.1 58 5 = 0) (h8 : m.1 58 8 = 0) (h12 : m.1 58 12 = 0) (h21 : m.1 58 21 = 0) (h22 : m.1 58 22 = 0) (h61 : m.1 61 0 = 0) (hG : GI m) : RRn (mT, m, f, n, T) 0 0 0 [] m := by
  refine ⟨NK.re m, hty, ⟨h12, fun i hi => ?_, fun i hi => absurd hi (by simp), List.nodup_nil⟩, Nat.le_refl _, ?_, Nat.zero_le _, h3, h5, h8, h22, by omega, h21, by omega, hG⟩
  · obtain rfl : i = 0 := by simpa using hi
    rw [h61, offs_0]
    rfl
  · show offs [] 0 ≤ 0
    rw [offs_0]
    exact Nat.le_refl _
/-- what the reference's reader leaves -/
def rrQ (m0 : yM) (r : PX) (E : EV) (v : Option Value) (m : yM) : Prop := NK m0 m ∧ m.1 61 0 = 0 ∧ GI m ∧ ∃ id, id < 20000 ∧ v = some (.int (nI id)) ∧ match r with
  | .inr (c, p) => m.1 58 3 = c ∧ 0 < c ∧ m.1 58 4 = p
  | .inl (_, _, F) => m.1 58 3 = 0 ∧ m.1 65 id = -1 ∧ m.1 68 id = -1 ∧ ∃ Rs, NR m Rs ∧ RT E Rs m F.length (id, 0, F.length, F)
theorem c270q (xs : List Int32) (d : Nat) {E : EV} (hE : EOk E) {N n : Nat} {m : yM} {r : PX} (h : RRn E 0 0 0 [] m) (e : p_text E.1 N n = some r) : yC (xg xs) (d + dR 0 + 23) 270 [.ref 58] m (rrQ E.2.1 r E) := by
  refine yC.mono (Nat.le_refl _) (fun v m' q => ?_) (c270 xs d hE h e)
  obtain ⟨id, i1, i2, i3⟩ := q
  rcases r with ⟨t, o, F⟩ | ⟨c, p⟩
  · have fl := (p_text_len hE.1 e).1
    obtain ⟨R, hp, hR, hT⟩ := i3
    obtain ⟨a1, a2, a3, a4⟩ := hT (by omega) R m' (List.prefix_refl _) (FM.re m')
    rw [Nat.zero_add] at a4
    exact ⟨hR.1, hR.2.2.1.at0, hR.gi, id, i1, i2, hR.f0, a2, a3, R, hR.2.2.1, a4⟩
  · have i3 : RRe E c p m' := i3
    exact ⟨i3.1, i3.2.2.2.2.2.2, i3.2.2.2.2.2.1, id, i1, i2, i3.2.1, i3.2.2.1, i3.2.2.2.1⟩
