/-! TOLD: alike -/
theorem st_mono {st : Nat → Nat} {u : Nat} (h : ∀ i, i < u → st i ≤ st (i + 1)) : ∀ n j, j + n = u → st j ≤ st u
  | 0, j, e => by rw [show j = u by omega]; exact Nat.le_refl _
  | n + 1, j, e => Nat.le_trans (h j (by omega)) (st_mono h n (j + 1) (by omega))
theorem op_told (xs : List Int32) (D : Nat) {Ro : yM → Prop} (hR : ∀ m, Ro m → Rh m) (hS : ClT Ro) (c q w : Int32) : opOk xs (D + 1) (InT Ro) (InT Ro) 238 405 [.int c, .int q, .int w] := by
  rintro m ⟨⟨k, h1, h2, h3, h4⟩, ho⟩
  have hr := hR m ho
  by_cases hc : ¬ m.1 0 12 = 0 ∧ 0 ≤ c ∧ c < m.1 35 7
  · obtain ⟨u, z, cc, st, q1, q2, q3, q4, q5, q6, -, -, -, -, -, -, -, qs, qe, qf, qa, -⟩ := hr.2.2.2.2 hc.1
    obtain ⟨i, hi, rfl⟩ := nI_of (x := c) (Int32.not_lt.mpr hc.2.1)
    have hiu : i < u := by
      have h9 := hc.2.2
      rw [q3, nI_ltI hi (by omega)] at h9
      exact h9
    have ha2 : ¬ m.1 58 61 = 0 := by rw [← hr.2.2.1]; exact hc.1
    obtain ⟨a1, a2, a3⟩ := qs i hiu
    have hend : st (i + 1) ≤ z := by
      rw [← qe]
      exact st_mono (fun j hj => (qs j hj).2.2) (u - (i + 1)) (i + 1) (by omega)
    have hlast : (if i + 1 < u then m.1 40 (i + 1) else m.1 35 6) = nI (st (i + 1)) ∧ m.1 93 (i + 1) = nI (st (i + 1)) := by
      by_cases hl : i + 1 < u
      · obtain ⟨b1, b2, -⟩ := qs (i + 1) hl
        rw [if_pos hl]
        exact ⟨b1, b2⟩
      · have e2 : i + 1 = u := by omega
        rw [if_neg hl, e2, qe]
        exact ⟨q6, qf⟩
    have hLX : (if i + 1 < u then m.1 40 (i + 1) else m.1 35 6) - m.1 40 i = nI (st (i + 1) - st i) := by
      rw [hlast.1, a1]
      exact pk_sub a3
    have hLY : m.1 93 (i + 1) - m.1 93 i = nI (st (i + 1) - st i) := by
      rw [hlast.2, a2]
      exact pk_sub a3
    by_cases hq : q < 0 ∨ ¬ q < nI (st (i + 1) - st i)
    · refine yC.mono (Nat.le_refl _) ?_ (c238c xs D m i u hiu q2 q3 hc.1 q w (by rw [hLX]; exact hq))
      rintro r m1 ⟨rfl, e1⟩
      refine ⟨_, rfl, ?_⟩
      rw [e1]
      refine yC.mono (Nat.le_succ _) ?_ (c405c xs D m i u hiu q2 q4 ha2 q w (by rw [hLY]; exact hq))
      rintro r2 m2 ⟨rfl, rfl⟩
      exact ⟨rfl, ⟨k, h1, h2, h3, h4⟩, hS m _ (Sm.si (by decide)) ho⟩
    · have c1 : ¬ q < 0 := fun z => hq (Or.inl z)
      have c2 : q < nI (st (i + 1) - st i) := Classical.not_not.mp (fun z => hq (Or.inr z))
      obtain ⟨j, hj, rfl⟩ := nI_of c1
      have hjl : j < st (i + 1) - st i := (nI_ltI hj (by omega)).mp c2
      refine yC.mono (Nat.le_refl _) ?_ (c238a xs D m i u hiu q2 q3 hc.1 (st i) (st (i + 1) - st i) j a1 hLX hjl (by omega) w)
      rintro r m1 ⟨rfl, e1⟩
      refine ⟨_, rfl, ?_⟩
      rw [e1]
      refine yC.mono (Nat.le_succ _) ?_ (c405a xs D m i u hiu q2 q4 ha2 (st i) (st (i + 1) - st i) j a2 hLY hjl (by omega) w)
      rintro r2 m2 ⟨rfl, rfl⟩
      obtain ⟨z1, z2, z3, z4⟩ := qa (st i + j) (by omega)
      exact ⟨by rw [z1, z2, z3, z4], ⟨k, h1, h2, h3, h4⟩, hS m _ (Sm.si (by decide)) ho⟩
  · refine yC.mono (Nat.le_refl _) ?_ (c238b xs D m c q w hc)
    rintro r m1 ⟨rfl, e1⟩
    refine ⟨_, rfl, ?_⟩
    rw [e1]
    refine yC.mono (Nat.le_succ _) ?_ (c405b xs D m c q w (fun z => hc (by
      obtain ⟨z1, z2, z3⟩ := z
      rw [← hr.2.2.1] at z1
      obtain ⟨u, z, cc, st, q1, q2, q3, q4, -⟩ := hr.2.2.2.2 z1
      exact ⟨z1, z2, by rw [q3, ← q4]; exact z3⟩)))
    rintro r2 m2 ⟨rfl, rfl⟩
    exact ⟨rfl, ⟨k, h1, h2, h3, h4⟩, hS m _ (Sm.si (by decide)) ho⟩
