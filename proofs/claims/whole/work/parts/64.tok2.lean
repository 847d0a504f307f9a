/-! TOKENS OF THE CLASS, second part: laid by wip/gen/small18.py -/
theorem bc_nB {f : Nat → Nat} {n e : Nat} (hf : e < n → f e < 256) : nB_ (bc f n e) ↔ (e < n ∧ isPN (f e)) := by
  unfold bc
  by_cases h : e < n
  · rw [if_pos h, nB_N _ (hf h)]
    exact ⟨fun z => ⟨h, z⟩, fun z => z.2⟩
  · rw [if_neg h]
    exact ⟨fun z => absurd z nB_m1, fun z => absurd z.1 h⟩
/-- a number that ends at e: (5, fault, 0) or (2, value, end) -/
def finN (f : Nat → Nat) (n e V : Nat) : Nat × Nat × Nat := if 2147483647 < V ∨ (e < n ∧ isPN (f e)) then (5, 4, 0) else (2, V, e)
def tkR (m : yM) (k p n : Nat) (t : Nat × Nat × Nat) (kd : Int32) (r : Option Value) (m' : yM) : Prop := if t.1 = 5 then r = some (.int (nI n)) ∧ m' = y_si (tkAdd m k 68 (nI p) (nI t.2.1)) 8 8 1 else r = some (.int (nI t.2.2)) ∧ m' = tkAdd m k kd (nI p) (nI t.2.1)
theorem tkR.bad {m : yM} {k p n v w : Nat} {t : Nat × Nat × Nat} {kd : Int32} {r : Option Value} {m' : yM} (ht : t = (5, v, w)) (hr : r = some (.int (nI n))) (hm : m' = y_si (tkAdd m k 68 (nI p) (nI v)) 8 8 1) : tkR m k p n t kd r m' := by simp [tkR, ht, hr, hm]
theorem tkR.ok {m : yM} {k p n v w K : Nat} {t : Nat × Nat × Nat} {kd : Int32} {r : Option Value} {m' : yM} (ht : t = (K, v, w)) (hK : K ≠ 5) (hr : r = some (.int (nI w))) (hm : m' = tkAdd m k kd (nI p) (nI v)) : tkR m k p n t kd r m' := by simp [tkR, ht, hr, hm, hK]
set_option maxRecDepth 20000 in
/-- Tokens.numberEnd -/
theorem c46 (xs : List Int32) (d : Nat) (m : yM) {f : Nat → Nat} {n : Nat} (h : TX m f n) (k : Nat) (hk : m.1 8 6 = nI k) (hk2 : k ≤ 8192) (p e W : Nat) (he : m.1 8 7 = nI e) (he2 : e ≤ n + 3) (hW : W < 2 ^ 63) : yC (xg xs) (d + 2) 46 [.ref 8, .int (nI p), .long (lN W)] m (fun r m' => tkR m k p n (finN f n e W) 65 r m') := by
  have ht := h.1
  have h5 := h.2.1
  have h8 := h.2.2.1
  have hf := h.2.2.2
  refine y_st rfl rfl rfl rfl rfl (fun _ _ => rfl) ?_
  refine y_st rfl rfl rfl rfl rfl (fun _ _ => rfl) ?_
  refine y_st rfl rfl rfl rfl rfl (fun _ _ => rfl) ?_
  show yP (xg xs) (d + 2) 46 5 [(0, .ref 8), (1, .int (nI p)), (2, .long (lN W))] [.int (lg_cmp (lN W) (2147483647 : Int64))] m _
  refine y_zgt (t := 22) rfl rfl rfl (fun h5_ => ?_) (fun h5_ => ?_)
  · have w5 : 2147483647 < W := (pk_lLT (a := 2147483647) (by decide) hW).mp ((lg_cmp_gt _ _).mp h5_)
    refine y_st rfl rfl rfl rfl rfl (fun _ _ => rfl) ?_
    refine y_st rfl rfl rfl rfl rfl (fun _ _ => rfl) ?_
    refine y_st rfl rfl rfl rfl rfl (fun _ _ => rfl) ?_
    show yP (xg xs) (d + 2) 46 25 [(0, .ref 8), (1, .int (nI p)), (2, .long (lN W))] [.int (nI p), .int (4 : Int32), .ref 8] m _
    refine y_call rfl rfl rfl rfl rfl (Nat.le_of_ble_eq_true rfl) (Nat.le_of_ble_eq_true rfl) rfl (by decide) (c38 xs d m (4 : Int32) (nI p) k hk hk2) (fun v1 m1 q1 => ?_)
    obtain ⟨rfl, e1⟩ := q1; rw [e1]; clear e1
    show yP (xg xs) (d + 2) 46 28 [(0, .ref 8), (1, .int (nI p)), (2, .long (lN W))] [.int (m.1 8 5)] (y_si (tkAdd m k 68 (nI p) (4 : Int32)) 8 8 1) _
    exact y_iret rfl rfl rfl (tkR.bad (v := 4) (w := 0) (if_pos (by first | exact Or.inl w5 | exact Or.inr w19)) (congrArg (fun z => some (Value.int z)) h5) rfl)
  · have w5 : ¬ 2147483647 < W := fun z => h5_ ((lg_cmp_gt _ _).mpr ((pk_lLT (a := 2147483647) (by decide) hW).mpr z))
    refine y_st rfl rfl rfl rfl rfl (fun _ _ => rfl) ?_
    refine y_st rfl rfl rfl rfl rfl (fun _ _ => rfl) ?_
    refine y_gf rfl rfl rfl rfl rfl ?_
    show yP (xg xs) (d + 2) 46 13 [(0, .ref 8), (1, .int (nI p)), (2, .long (lN W))] [.int (m.1 8 7), .ref 8] m _
    rw [he]
    refine y_call rfl rfl rfl rfl rfl (Nat.le_of_ble_eq_true rfl) (Nat.le_of_ble_eq_true rfl) rfl (by decide) (yC.mono (by omega) (fun _ _ z => z) (c36x xs d m h (e) (by omega))) (fun v2 m2 q2 => ?_)
    obtain ⟨rfl, e2⟩ := q2; rw [e2]; clear e2
    show yP (xg xs) (d + 2) 46 16 [(0, .ref 8), (1, .int (nI p)), (2, .long (lN W))] [.int (bc f n (e))] m _
    refine y_call rfl rfl rfl rfl rfl (Nat.le_of_ble_eq_true rfl) (Nat.le_of_ble_eq_true rfl) rfl (by decide) (yC.mono (by omega) (fun _ _ z => z) (c47 xs d m (bc f n (e)))) (fun v3 m3 q3 => ?_)
    obtain ⟨rfl, e3⟩ := q3; rw [e3]; clear e3
    show yP (xg xs) (d + 2) 46 19 [(0, .ref 8), (1, .int (nI p)), (2, .long (lN W))] [.int (if nB_ (bc f n (e)) then 1 else 0)] m _
    refine y_zeq (t := 29) rfl rfl rfl (fun h19 => ?_) (fun h19 => ?_)
    · have w19 := fun z => y_iff h19 ((bc_nB (f := f) (n := n) (fun y => (hf e y).1)).mpr z)
      refine y_st rfl rfl rfl rfl rfl (fun _ _ => rfl) ?_
      refine y_st rfl rfl rfl rfl rfl (fun _ _ => rfl) ?_
      refine y_st rfl rfl rfl rfl rfl (fun _ _ => rfl) ?_
      refine y_st rfl rfl rfl rfl rfl (fun _ _ => rfl) ?_
      refine y_st rfl rfl rfl rfl rfl (fun _ _ => rfl) ?_
      show yP (xg xs) (d + 2) 46 35 [(0, .ref 8), (1, .int (nI p)), (2, .long (lN W))] [.int ((lN W).toInt32), .int (nI p), .int (65 : Int32), .ref 8] m _
      refine y_call rfl rfl rfl rfl rfl (Nat.le_of_ble_eq_true rfl) (Nat.le_of_ble_eq_true rfl) rfl (by decide) (yC.mono (by omega) (fun _ _ z => z) (c39 xs d m (65 : Int32) (nI p) ((lN W).toInt32) k hk hk2)) (fun v4 m4 q4 => ?_)
      obtain ⟨rfl, e4⟩ := q4; rw [e4]; clear e4
      refine y_st rfl rfl rfl rfl rfl (fun _ _ => rfl) ?_
      refine y_gf rfl rfl rfl rfl rfl ?_
      show yP (xg xs) (d + 2) 46 42 [(0, .ref 8), (1, .int (nI p)), (2, .long (lN W))] [.int ((tkAdd m k (65 : Int32) (nI p) ((lN W).toInt32)).1 8 7)] (tkAdd m k (65 : Int32) (nI p) ((lN W).toInt32)) _
      exact y_iret rfl rfl rfl (tkR.ok (v := W) (w := e) (K := 2) (if_neg (fun z => z.elim w5 w19)) (by decide) (congrArg (fun z => some (Value.int z)) (by simp [tkAdd, y_si_at]; exact he)) (by rw [lN_i]))
    · have w19 := (bc_nB (fun y => (hf e y).1)).mp (y_ift h19)
      refine y_st rfl rfl rfl rfl rfl (fun _ _ => rfl) ?_
      refine y_st rfl rfl rfl rfl rfl (fun _ _ => rfl) ?_
      refine y_st rfl rfl rfl rfl rfl (fun _ _ => rfl) ?_
      show yP (xg xs) (d + 2) 46 25 [(0, .ref 8), (1, .int (nI p)), (2, .long (lN W))] [.int (nI p), .int (4 : Int32), .ref 8] m _
      refine y_call rfl rfl rfl rfl rfl (Nat.le_of_ble_eq_true rfl) (Nat.le_of_ble_eq_true rfl) rfl (by decide) (c38 xs d m (4 : Int32) (nI p) k hk hk2) (fun v5 m5 q5 => ?_)
      obtain ⟨rfl, e5⟩ := q5; rw [e5]; clear e5
      show yP (xg xs) (d + 2) 46 28 [(0, .ref 8), (1, .int (nI p)), (2, .long (lN W))] [.int (m.1 8 5)] (y_si (tkAdd m k 68 (nI p) (4 : Int32)) 8 8 1) _
      exact y_iret rfl rfl rfl (tkR.bad (v := 4) (w := 0) (if_pos (by first | exact Or.inl w5 | exact Or.inr w19)) (congrArg (fun z => some (Value.int z)) h5) rfl)
