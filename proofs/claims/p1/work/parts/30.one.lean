/-- the law's run on a script ends with 1, within the room -/
def x_one (xs : List Int32) (n d : Nat) : Bool := match x_exec (xg xs) xms xcd n d 0 0 [(0, .retAddr 1)] [] [] 0 0 with
  | some (some (.int v), _, mc, mz) => decide (v = 1) && (Nat.ble mc 600000 && Nat.ble mz 7302250)
  | _ => false
theorem x_one_run {xs : List Int32} {n d : Nat} (hd : d ≤ 1750) (h : x_one xs n d = true) : x_Run1 xs := by
  unfold x_one at h
  split at h
  · rename_i v w mc mz hx
    simp only [Bool.and_eq_true, decide_eq_true_eq] at h
    obtain ⟨rfl, h1, h2⟩ := h
    exact ⟨n, d, w, mc, mz, hx, hd, Nat.le_of_ble_eq_true h1, Nat.le_of_ble_eq_true h2⟩
  · cases h
