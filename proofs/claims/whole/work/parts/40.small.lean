/-! SMALL METHODS -/
/-- CodeMaker.clear -/
theorem c14 (xs : List Int32) (d : Nat) (m : yM) : yC (xg xs) d 14 [.ref 0] m (fun r m' => r = some (.int (m.1 0 9)) ∧ m' = y_si m 0 9 0) := by
  refine y_st rfl rfl rfl rfl rfl (fun _ _ => rfl) ?_
  refine y_gf rfl rfl rfl rfl rfl ?_
  refine y_st rfl rfl rfl rfl rfl (fun _ _ => rfl) ?_
  refine y_st rfl rfl rfl rfl rfl (fun _ _ => rfl) ?_
  refine y_st rfl rfl rfl rfl rfl (fun _ _ => rfl) ?_
  refine y_pfi rfl rfl rfl rfl rfl (x_fit_i _) ?_
  refine y_st rfl rfl rfl rfl rfl (fun _ _ => rfl) ?_
  exact y_iret rfl rfl rfl ⟨rfl, rfl⟩
