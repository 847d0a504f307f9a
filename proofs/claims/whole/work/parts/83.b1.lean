/-! STANDARD BLOCKS: what they do, pure; the class -/
def y_sa (m : yM) (a : Nat) (f : Nat → Int32) : yM := (fun b => if b = a then f else m.1 b, m.2)
theorem y_s1 (m : yM) (a i : Nat) (v : Int32) : y_si m a i v = y_sa m a (upd (m.1 a) i v) := rfl
theorem y_sa_a (m : yM) (a : Nat) (f : Nat → Int32) : (y_sa m a f).1 a = f := if_pos rfl
theorem y_sa_o (m : yM) {a b : Nat} (f : Nat → Int32) (h : ¬ b = a) : (y_sa m a f).1 b = m.1 b := if_neg h
theorem y_sa_s (m : yM) (a : Nat) (f g : Nat → Int32) : y_sa (y_sa m a f) a g = y_sa m a g := by
  unfold y_sa
  refine Prod.ext (funext fun b => ?_) rfl
  by_cases h : b = a
  · show (if b = a then g else _) = (if b = a then g else _)
    rw [if_pos h, if_pos h]
  · show (if b = a then g else (if b = a then f else m.1 b)) = (if b = a then g else m.1 b)
    rw [if_neg h, if_neg h, if_neg h]
theorem y_ss (m : yM) (a i : Nat) (f : Nat → Int32) (v : Int32) : y_si (y_sa m a f) a i v = y_sa m a (upd f i v) := by rw [y_s1, y_sa_a, y_sa_s]
theorem y_sa_i (m : yM) (a : Nat) : y_sa m a (m.1 a) = m := by
  unfold y_sa
  refine Prod.ext (funext fun b => ?_) rfl
  show (if b = a then m.1 a else m.1 b) = m.1 b
  split
  · rename_i h; rw [h]
  · rfl
def onF (x : Int32) : Int32 := if x = 0 then 0 else 1
theorem onF_0 {x : Int32} : onF x = 0 ↔ x = 0 := by
  unfold onF
  split
  · rename_i h; exact ⟨fun _ => h, fun _ => rfl⟩
  · rename_i h; exact ⟨fun z => absurd z (by decide), fun z => absurd z h⟩
theorem onF_o (x : Int32) : onF (onF x) = onF x := by
  unfold onF
  split <;> rfl
def tmW (M : Nat → Int32) (c : Nat) : Int32 := if M (c + 1) < 0 then 0 else M (c + 1)
def tmL (now : Int32) (M : Nat → Int32) (c : Nat) : Int32 := (if (M (c + 3)).toInt64 + (now.toInt64 - (M (c + 5)).toInt64) < (tmW M c).toInt64 then (M (c + 3)).toInt64 + (now.toInt64 - (M (c + 5)).toInt64) else (tmW M c).toInt64).toInt32
def tm0 (M : Nat → Int32) (c : Nat) (on el w : Int32) : Nat → Int32 := upd (upd M (c + 3) (if on = 0 then 0 else el)) (c + 2) (if on = 0 then 0 else if el < w then 0 else 1)
def tm1 (M : Nat → Int32) (c : Nat) (on was l w : Int32) : Nat → Int32 := if on = 0 then (if was = 0 then (if M (c + 2) = 0 then M else upd (upd M (c + 3) l) (c + 2) (if w ≤ l then 0 else 1)) else upd (upd M (c + 3) 0) (c + 2) (if w ≤ 0 then 0 else 1)) else upd (upd M (c + 2) 1) (c + 3) 0
def tm2a (M : Nat → Int32) (c : Nat) (l w : Int32) : Nat → Int32 := if M (c + 2) = 0 then M else if l < w then upd M (c + 3) l else upd (upd M (c + 3) l) (c + 2) 0
def tm2b (M : Nat → Int32) (c : Nat) (on was w : Int32) : Nat → Int32 := if M (c + 2) = 0 then (if on = 0 then upd M (c + 3) 0 else if was = 0 then upd (upd M (c + 3) 0) (c + 2) (if w ≤ 0 then 0 else 1) else M) else M
def tmrF (k : Nat) (now : Int32) (c : Nat) (M : Nat → Int32) : Nat → Int32 := upd (upd (if k = 0 then tm0 M c (onF (M c)) (if onF (M (c + 4)) = 0 then 0 else tmL now M c) (tmW M c) else if k = 1 then tm1 M c (onF (M c)) (onF (M (c + 4))) (tmL now M c) (tmW M c) else tm2b (tm2a M c (tmL now M c) (tmW M c)) c (onF (M c)) (onF (M (c + 4))) (tmW M c)) (c + 4) (onF (M c))) (c + 5) now
section MC
variable (xs : List Int32) (d : Nat) (m : yM) {c : Nat}
theorem cell_in (h : c < 8192) : (0 ≤ nI c ∧ nI c < 8192) ∧ (nI c).toNatClampNeg = c := ⟨⟨nI_le (a := 0) (by omega) (by omega), nI_lt (b := 8192) h (by omega)⟩, nI_clamp (by omega)⟩
theorem m247 (h : c < 8192) : yC (xg xs) d 247 [.ref 52, .int (nI c)] m (fun r m' => r = some (.int (m.1 53 c)) ∧ m' = m) := by
  have := c247 xs d m (nI c)
  obtain ⟨h1, h2⟩ := cell_in h
  rw [if_pos h1, h2] at this
  exact this
theorem m234 (h : c < 8192) (v : Int32) : yC (xg xs) d 234 [.ref 52, .int (nI c), .int v] m (fun r m' => r = none ∧ m' = y_si m 53 c v) := by
  have := c234 xs d m (nI c) v
  obtain ⟨h1, h2⟩ := cell_in h
  rw [if_pos h1, h2] at this
  exact this
theorem m256 (h : c < 8192) : yC (xg xs) (d + 1) 256 [.ref 52, .int (nI c)] m (fun r m' => r = some (.int (onF (m.1 53 c))) ∧ m' = m) := by
  have := c256 xs d m (nI c)
  obtain ⟨h1, h2⟩ := cell_in h
  unfold ld_ at this
  rw [if_pos h1, h2] at this
  exact this
theorem m258 (h : c < 8192) (b : Int32) : yC (xg xs) (d + 1) 258 [.ref 52, .int (nI c), .int b] m (fun r m' => r = none ∧ m' = y_si m 53 c (onF b)) := by
  have := c258 xs d m (nI c) b
  obtain ⟨h1, h2⟩ := cell_in h
  unfold sto_ at this
  rw [if_pos h1, h2] at this
  exact this
end MC
theorem onF_1 : onF 1 = 1 := by decide
theorem onF_z : onF 0 = 0 := by decide
theorem c257 (xs : List Int32) (d : Nat) (m : yM) {c : Nat} (h : c + 5 < 8192) (on el w : Int32) : yC (xg xs) (d + 2) 257 [.ref 52, .int (nI c), .int on, .int el, .int w] m (fun r m' => r = none ∧ m' = y_sa m 53 (tm0 (m.1 53) c on el w)) := by
  have a2 : nI c + 2 = nI (c + 2) := nI_add c 2
  have a3 : nI c + 3 = nI (c + 3) := nI_add c 3
  have s35 : ∀ (v b : Int32), onF b = b → y_sa m 53 (upd (upd (m.1 53) (c + 3) v) (c + 2) b) = y_sa m 53 (tm0 (m.1 53) c on el w) → yP (xg xs) (d + 2) 257 35 [] [.int b, .int (nI (c + 2)), .ref 52] (y_si m 53 (c + 3) v) (fun r m' => r = none ∧ m' = y_sa m 53 (tm0 (m.1 53) c on el w)) := by
    intro v b hb e
    refine w257_35 xs (d + 1) _ _ _ _ (y_cv (m258 xs d _ (by omega) b) (by omega) ⟨rfl, ?_⟩)
    rw [y_s1 m, y_ss, hb]
    exact e
  refine w257_0 xs (d + 1) _ _ _ _ m _ ⟨fun z => ?_, fun z => ?_⟩
  · rw [a3]
    refine w257_13 xs (d + 1) _ _ _ _ _ _ m _ (y_cv (m234 xs (d + 1) m (by omega) 0) (by omega) ⟨fun _ => ?_, fun z2 => absurd z z2⟩)
    rw [a2]
    refine w257_34 xs (d + 1) _ _ _ (s35 0 0 onF_z ?_)
    unfold tm0
    rw [if_pos z, if_pos z]
  · rw [a3]
    refine w257_13 xs (d + 1) _ _ _ _ _ _ m _ (y_cv (m234 xs (d + 1) m (by omega) el) (by omega) ⟨fun z2 => absurd z2 z, fun _ => ⟨fun u => ?_, fun u => ?_⟩⟩)
    · rw [a2]
      refine w257_34 xs (d + 1) _ _ _ (s35 el 0 onF_z ?_)
      unfold tm0
      rw [if_neg z, if_neg z, if_pos u]
    · rw [a2]
      refine s35 el 1 onF_1 ?_
      unfold tm0
      rw [if_neg z, if_neg z, if_neg u]
theorem c259 (xs : List Int32) (d : Nat) (m : yM) {c : Nat} (h : c + 5 < 8192) (on was l w : Int32) : yC (xg xs) (d + 2) 259 [.ref 52, .int (nI c), .int on, .int was, .int l, .int w] m (fun r m' => r = none ∧ m' = y_sa m 53 (tm1 (m.1 53) c on was l w)) := by
  have a2 : nI c + 2 = nI (c + 2) := nI_add c 2
  have a3 : nI c + 3 = nI (c + 3) := nI_add c 3
  unfold tm1
  refine w259_0 xs (d + 1) _ _ _ _ _ m _ ⟨fun z => ⟨fun z2 => ?_, fun z2 => ?_⟩, fun z => ?_⟩
  · rw [a2, a3, if_pos z, if_pos z2]
    refine y_ci (m256 xs d m (by omega)) (by omega) ⟨fun u => ⟨rfl, ?_⟩, fun u => ?_⟩
    · rw [if_pos (onF_0.mp u), y_sa_i]
    · rw [if_neg (fun q => u (onF_0.mpr q))]
      refine y_cv (m234 xs (d + 1) m (by omega) l) (by omega) ⟨fun q => ?_, fun q => ?_⟩
      · rw [if_pos q]
        refine w259_90 xs (d + 1) _ _ _ _ (y_cv (m258 xs d _ (by omega) 0) (by omega) ⟨rfl, ?_⟩)
        rw [y_s1 m, y_ss, onF_z]
      · rw [if_neg q]
        refine w259_90 xs (d + 1) _ _ _ _ (y_cv (m258 xs d _ (by omega) 1) (by omega) ⟨rfl, ?_⟩)
        rw [y_s1 m, y_ss, onF_1]
  · rw [a2, a3, if_pos z, if_neg z2]
    refine y_cv (m234 xs (d + 1) m (by omega) 0) (by omega) ⟨fun q => ?_, fun q => ?_⟩
    · rw [if_pos q]
      refine w259_49 xs (d + 1) _ _ _ _ (y_cv (m258 xs d _ (by omega) 0) (by omega) ⟨rfl, ?_⟩)
      rw [y_s1 m, y_ss, onF_z]
    · rw [if_neg q]
      refine w259_49 xs (d + 1) _ _ _ _ (y_cv (m258 xs d _ (by omega) 1) (by omega) ⟨rfl, ?_⟩)
      rw [y_s1 m, y_ss, onF_1]
  · rw [a2, a3, if_neg z]
    refine y_cv (m258 xs d m (by omega) 1) (by omega) (y_cv (m234 xs (d + 1) _ (by omega) 0) (by omega) ⟨rfl, ?_⟩)
    rw [y_s1 m, y_ss, onF_1]
theorem c260 (xs : List Int32) (d : Nat) (m : yM) {c : Nat} (h : c + 5 < 8192) (on was l w : Int32) : yC (xg xs) (d + 2) 260 [.ref 52, .int (nI c), .int on, .int was, .int l, .int w] m (fun r m' => r = none ∧ m' = y_sa m 53 (tm2b (tm2a (m.1 53) c l w) c on was w)) := by
  have a2 : nI c + 2 = nI (c + 2) := nI_add c 2
  have a3 : nI c + 3 = nI (c + 3) := nI_add c 3
  have s34 : ∀ M : Nat → Int32, yP (xg xs) (d + 2) 260 34 [(0, .ref 52), (1, .int (nI c)), (2, .int on), (3, .int was), (5, .int w)] [] (y_sa m 53 M) (fun r m' => r = none ∧ m' = y_sa m 53 (tm2b M c on was w)) := by
    intro M
    unfold tm2b
    have s80 : (M (c + 2) = 0 → on = 0 ∨ (¬ on = 0 ∧ ¬ was = 0)) → M (c + 2) = 0 → yP (xg xs) (d + 2) 260 80 [(0, .ref 52), (1, .int (nI c)), (2, .int on)] [] (y_sa m 53 M) (fun r m' => r = none ∧ m' = y_sa m 53 (if M (c + 2) = 0 then (if on = 0 then upd M (c + 3) 0 else if was = 0 then upd (upd M (c + 3) 0) (c + 2) (if w ≤ 0 then 0 else 1) else M) else M)) := by
      intro q q2
      rw [if_pos q2]
      refine w260_80 xs (d + 1) _ _ _ _ ⟨fun z => ⟨rfl, ?_⟩, fun z => ?_⟩
      · rw [if_neg z, if_neg ((q q2).resolve_left z).2]
      · rw [a3, if_pos z]
        refine y_cv (m234 xs (d + 1) _ (by omega) 0) (by omega) ⟨rfl, ?_⟩
        rw [y_ss]
    refine w260_34 xs (d + 1) _ _ _ _ _ _ ?_
    rw [a2, a3]
    refine y_ci (m256 xs d _ (by omega)) (by omega) ⟨fun u => ⟨rfl, ?_⟩, fun u => ?_⟩
    · rw [y_sa_a] at u
      rw [if_neg (fun q => u (onF_0.mpr q))]
    · rw [y_sa_a] at u
      have u := onF_0.mp u
      refine ⟨fun z => s80 (fun _ => Or.inl z) u, fun z => ⟨fun z2 => s80 (fun _ => Or.inr ⟨z, z2⟩) u, fun z2 => ?_⟩⟩
      rw [if_pos u, if_neg z, if_pos z2]
      refine y_cv (m234 xs (d + 1) _ (by omega) 0) (by omega) ⟨fun q => ?_, fun q => ?_⟩
      · rw [if_pos q]
        refine w260_74 xs (d + 1) _ _ _ _ (y_cv (m258 xs d _ (by omega) 0) (by omega) ⟨rfl, ?_⟩)
        rw [y_ss, y_ss, onF_z]
      · rw [if_neg q]
        refine w260_74 xs (d + 1) _ _ _ _ (y_cv (m258 xs d _ (by omega) 1) (by omega) ⟨rfl, ?_⟩)
        rw [y_ss, y_ss, onF_1]
  refine w260_0 xs (d + 1) _ _ _ _ _ m _ ?_
  rw [a2, a3]
  unfold tm2a
  refine y_ci (m256 xs d m (by omega)) (by omega) ⟨fun u => ?_, fun u => ?_⟩
  · rw [if_pos (onF_0.mp u)]
    have := s34 (m.1 53)
    rw [y_sa_i] at this
    exact this
  · rw [if_neg (fun q => u (onF_0.mpr q))]
    refine y_cv (m234 xs (d + 1) m (by omega) l) (by omega) ⟨fun q => ?_, fun q => ?_⟩
    · rw [if_pos q]
      exact s34 _
    · rw [if_neg q]
      refine y_cv (m234 xs (d + 1) _ (by omega) 0) (by omega) ?_
      rw [y_s1 m, y_ss]
      exact s34 _
