/-! THE WHOLE, if the pure machine is safe and keeps the bound -/
theorem op_make_b (xs : List Int32) (D : Nat) : opOk xs (D + 714) (fun m => InT RoM m ∧ BY1 m) (fun m => InT RoM m ∧ BY1 m) 18 269 [] := by
  rintro m ⟨h1, h2⟩
  refine yC.mono (Nat.le_refl _) (fun r m1 q => ?_) (yC.by h2 (op_make xs D m ⟨h1, h2⟩))
  obtain ⟨⟨v, e, q⟩, b1⟩ := q
  exact ⟨v, e, yC.mono (Nat.le_refl _) (fun r2 m2 q2 => ⟨q2.1.1, q2.1.2, q2.2⟩) (yC.by b1 q)⟩
theorem x_pure_of (hP : RunOk) (xs : List Int32) (h : xs.length ≤ 3072) : x_Run1 xs := by
  have hR : ∀ m, RoM m → Rh m := fun m q => q.1
  refine x_run xs h 1745 (by omega) (fun _ m => InT RoM m ∧ BY1 m) (fun _ _ q => q) ⟨RoM_0, BY1_0⟩ (fun _ _ => ?_) (fun _ _ a1 a2 a3 a4 a5 => ?_) (fun _ _ a1 => ?_) (fun _ _ => ?_) (fun _ _ a1 => ?_) (fun _ _ a1 => ?_) (fun _ _ a1 a2 a3 => ?_) (fun _ _ a1 a2 => ?_) (fun _ _ a1 => ?_) (fun _ _ a1 => ?_)
  · exact (op_clear xs 1749 RoM.cl).by
  · exact (op_feed xs 1748 RoM.cl a1 a2 a3 a4 a5).by
  · exact (op_end xs 1749 RoM.cl a1).by
  · exact op_make_b xs 1035
  · exact (op_count xs 1749 hR RoM.cl a1).by
  · exact (op_length xs 1748 hR RoM.cl a1).by
  · exact (op_told xs 1748 hR RoM.cl a1 a2 a3).by
  · exact (op_set xs 1748 hR RoM.cl RoM.w a1 a2).by
  · exact (op_get xs 1748 hR RoM.cl a1).by
  · exact (op_run hP xs 1728 a1).by
