/-! MEASURE: earlier units are called, loops end -/
theorem tdv {x y : Int} (h : 0 ≤ x) (hy : 0 < y) : 0 ≤ x.tdiv y ∧ x.tdiv y ≤ x := by
  rw [Int.tdiv_eq_ediv_of_nonneg h]
  exact ⟨Int.ediv_nonneg h (Int.le_of_lt hy), Int.ediv_le_self _ h⟩
theorem tmR_pos (f t s : Int32) : 0 ≤ (tmR f t s).toInt := by
  have s2 : (lg_cmp s.toInt64 0 ≤ 0) ↔ s.toInt ≤ 0 := by rw [lg_cmp_le, Int64.le_iff_toInt_le, i64_r, z64]
  have s1 : (0 ≤ lg_cmp s.toInt64 0) ↔ 0 ≤ s.toInt := by rw [lg_cmp_ge, Int64.le_iff_toInt_le, i64_r, z64]
  have f1 : (0 ≤ lg_cmp f.toInt64 t.toInt64) ↔ t.toInt ≤ f.toInt := by rw [lg_cmp_ge, Int64.le_iff_toInt_le, i64_r, i64_r]
  have f2 : (lg_cmp f.toInt64 t.toInt64 ≤ 0) ↔ f.toInt ≤ t.toInt := by rw [lg_cmp_le, Int64.le_iff_toInt_le, i64_r, i64_r]
  have bf := f.toInt_lt
  have bf' := f.le_toInt
  have bt := t.toInt_lt
  have bt' := t.le_toInt
  unfold tmR
  split
  · rename_i a
    have a := s2.mp a
    split
    · exact Int.le_refl _
    · rename_i b
      have b : ¬ 0 ≤ s.toInt := fun w => b (s1.mpr w)
      split
      · rename_i c
        have c := f1.mp c
        obtain ⟨d1, d2⟩ := tdv (x := f.toInt - t.toInt) (y := -s.toInt) (by omega) (by omega)
        rw [Int64.toInt_add, Int64.toInt_div, i64_s, i64_n, bm64 (x := (f.toInt - t.toInt).tdiv (-s.toInt)) (by omega) (by omega), show (1 : Int64).toInt = 1 from rfl, bm64 (by omega) (by omega)]
        omega
      · exact Int.le_refl _
  · rename_i a
    have a : ¬ s.toInt ≤ 0 := fun w => a (s2.mpr w)
    split
    · rename_i c
      have c := f2.mp c
      obtain ⟨d1, d2⟩ := tdv (x := t.toInt - f.toInt) (y := s.toInt) (by omega) (by omega)
      rw [Int64.toInt_add, Int64.toInt_div, i64_s, i64_r, bm64 (x := (t.toInt - f.toInt).tdiv s.toInt) (by omega) (by omega), show (1 : Int64).toInt = 1 from rfl, bm64 (by omega) (by omega)]
      omega
    · exact Int.le_refl _
theorem tm_nI {x : Int64} (h : 0 ≤ x.toInt) (h2 : lg_cmp x 1000000 ≤ 0) : ∃ n, n ≤ 1000000 ∧ x.toInt32 = nI n := by
  rw [lg_cmp_le, Int64.le_iff_toInt_le, show (1000000 : Int64).toInt = 1000000 from rfl] at h2
  refine ⟨x.toInt.toNat, by omega, ?_⟩
  apply Int32.toInt_inj.mp
  rw [Int64.toInt_toInt32, nI_toInt (by omega), Int.bmod_eq_of_le (by omega) (by omega)]
  omega
theorem ck_of {m0 : yM} {T : Nat} {F : List ND} {s : SU} (hz : HZ m0 T F s) (h22 : P22 F [] F.length s) (h24 : P24 F [] F.length) {b : Nat} (hb : b < s.1.1.length) (h16 : s.1.1.length ≤ 16) : CKu s.1 b (s.1.1.getD b dBK).2.1 ((s.1.1.getD b dBK).2.1 + szF F (s.1.1.getD b dBK).2.1) := by
  have hS := hz.1
  intro j j1 j2
  obtain ⟨nl, kb⟩ := hz.2.2.2.1 b hb
  have hW := HZ.w hz nl
  have jl : j < F.length := by have := hW.at; omega
  obtain ⟨a1, a2, a3⟩ := h22 j jl jl (by simp) b hb j1 j2
  have k37 := hS.1.2.1 j jl
  have kq : ∀ q, q < 30 → (s.1.2.2.1 j = nI q → kK F j = q) := by
    intro q hq y
    rcases hS.ks jl with w | ⟨w, -⟩
    · rw [w] at y; exact (nI_eq (by omega) (by omega)).mp y
    · rw [w] at y
      have := (nI_eq (a := 30) (by omega) (by omega)).mp (show nI 30 = nI q from y)
      omega
  refine ⟨fun k n10 => ?_, fun k n9 => ?_, fun k => ?_⟩
  · rcases a1 k with ⟨q, q1, q2⟩ | ⟨q, q1, q2⟩
    · exact absurd (by rw [q2]; exact nI_lt (b := 10) q1 (by omega)) n10
    · refine ⟨q, q1, ?_⟩
      rw [q2]
      exact nI_sub (a := q + 10) (b := 10) (by omega)
  · obtain ⟨v, v1, v2, v3⟩ := a3 (kq 13 (by omega) k)
    have vl : v < s.1.2.1.length := ((vOk_i s.1 v).mp v2).1
    have vm := (hS.2.2.1.1.nb hS.1 (Nat.le_refl _)).2.1
    rw [v1, nI_clamp (by omega)] at n9 ⊢
    rcases v3 with ⟨q, q1, q2⟩ | ⟨q, q1, q2⟩
    · rw [q2] at n9
      have := (nI_leI (a := 9) (by omega) (by omega)).mp n9
      omega
    · refine ⟨q, q1, ?_⟩
      rw [q2]
      exact nI_sub (a := q + 9) (b := 9) (by omega)
  · have k19 := kq 19 (by omega) k
    have e := tmF_e hS.1 hS.2.2.1.1.1 (HZ.w hz jl) k19
    rw [e]
    refine tm_nI ?_ (h24 j jl jl (by simp) k19)
    unfold tmF
    exact tmR_pos _ _ _
