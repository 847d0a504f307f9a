/-! STANDARD BLOCKS: the class, all -/
theorem c255 (xs : List Int32) (d : Nat) (m : yM) {c k : Nat} (h : c + 5 < 8192) (hk : k < 3) : yC (xg xs) (d + 3) 255 [.ref 52, .int (nI k), .int (nI c)] m (fun r m' => r = none ∧ m' = y_sa m 53 (tmrF k (m.1 52 1) c (m.1 53))) := by
  have a1 : nI c + 1 = nI (c + 1) := nI_add c 1
  have a3 : nI c + 3 = nI (c + 3) := nI_add c 3
  have a4 : nI c + 4 = nI (c + 4) := nI_add c 4
  have a5 : nI c + 5 = nI (c + 5) := nI_add c 5
  have s118 : ∀ M : Nat → Int32, yP (xg xs) (d + 3) 255 118 [(0, .ref 52), (2, .int (nI c)), (3, .int (onF (m.1 53 c)))] [] (y_sa m 53 M) (fun r m' => r = none ∧ m' = y_sa m 53 (upd (upd M (c + 4) (onF (m.1 53 c))) (c + 5) (m.1 52 1))) := by
    intro M
    refine w255_118 xs (d + 2) _ _ _ _ ?_
    rw [a4, a5]
    refine y_cv (m258 xs d _ (by omega) _) (by omega) (y_cv (m234 xs d _ (by omega) _) (by omega) ⟨rfl, ?_⟩)
    rw [y_ss, y_ss, onF_o, y_sa_o _ _ (by decide)]
  unfold tmrF
  refine w255_0 xs (d + 2) _ _ m _ ?_
  rw [a1, a3, a4, a5]
  refine y_ci (m256 xs d m (by omega)) (by omega) (y_ci (m256 xs d m (by omega)) (by omega) (y_ci (m247 xs d m (by omega)) (by omega) (y_ci (m247 xs d m (by omega)) (by omega) (y_ci (m247 xs d m (by omega)) (by omega) ?_))))
  show (_ → (_ → yC (xg xs) (d + 2) 260 [.ref 52, .int (nI c), .int (onF (m.1 53 c)), .int (onF (m.1 53 (c + 4))), .int (tmL (m.1 52 1) (m.1 53) c), .int (tmW (m.1 53) c)] m _) ∧ (_ → yC (xg xs) (d + 2) 259 [.ref 52, .int (nI c), .int (onF (m.1 53 c)), .int (onF (m.1 53 (c + 4))), .int (tmL (m.1 52 1) (m.1 53) c), .int (tmW (m.1 53) c)] m _)) ∧ (_ → (_ → yP (xg xs) (d + 3) 255 78 [(0, .ref 52), (2, .int (nI c)), (3, .int (onF (m.1 53 c))), (5, .int (tmW (m.1 53) c))] [.int 0, .int (onF (m.1 53 c)), .int (nI c), .ref 52] m _) ∧ (_ → yP (xg xs) (d + 3) 255 78 [(0, .ref 52), (2, .int (nI c)), (3, .int (onF (m.1 53 c))), (5, .int (tmW (m.1 53) c))] [.int (tmL (m.1 52 1) (m.1 53) c), .int (onF (m.1 53 c)), .int (nI c), .ref 52] m _))
  refine ⟨fun z => ⟨fun z2 => ?_, fun z2 => ?_⟩, fun z => ⟨fun z2 => ?_, fun z2 => ?_⟩⟩
  · have k0 : ¬ k = 0 := fun e => z (by rw [e]; rfl)
    have k1 : ¬ k = 1 := fun e => z2 (by rw [e]; rfl)
    rw [if_neg k0, if_neg k1]
    refine y_cv (c260 xs d m h _ _ _ _) (by omega) (s118 _)
  · have k1 : k = 1 := (nI_eq (b := 1) (by omega) (by omega)).mp z2
    rw [k1, if_neg (by decide), if_pos rfl]
    refine y_cv (c259 xs d m h _ _ _ _) (by omega) (s118 _)
  · have k0 : k = 0 := (nI_eq (b := 0) (by omega) (by omega)).mp z
    rw [k0, if_pos rfl, if_pos z2]
    exact w255_78 xs (d + 2) _ _ _ _ _ _ m _ (y_cv (c257 xs d m h _ _ _) (by omega) (s118 _))
  · have k0 : k = 0 := (nI_eq (b := 0) (by omega) (by omega)).mp z
    rw [k0, if_pos rfl, if_neg z2]
    exact w255_78 xs (d + 2) _ _ _ _ _ _ m _ (y_cv (c257 xs d m h _ _ _) (by omega) (s118 _))
def ctC (k c : Nat) (M : Nat → Int32) : Int32 := if onF (M (c + 1)) = 0 then (if ¬ onF (M c) = 0 ∧ onF (M (c + 5)) = 0 then (if k = 3 then (if 32767 ≤ M (c + 4) then M (c + 4) else M (c + 4) + 1) else (if M (c + 4) ≤ -32768 then M (c + 4) else M (c + 4) + -1)) else M (c + 4)) else (if k = 3 then 0 else M (c + 2))
def ctF (k c : Nat) (M : Nat → Int32) : Nat → Int32 := upd (upd (upd M (c + 4) (ctC k c M)) (c + 3) (if k = 3 then (if ctC k c M < M (c + 2) then 0 else 1) else (if 0 < ctC k c M then 0 else 1))) (c + 5) (onF (M c))
theorem c261 (xs : List Int32) (d : Nat) (m : yM) {c k : Nat} (h : c + 5 < 8192) (hk : k = 3 ∨ k = 4) : yC (xg xs) (d + 2) 261 [.ref 52, .int (nI k), .int (nI c)] m (fun r m' => r = none ∧ m' = y_sa m 53 (ctF k c (m.1 53))) := by
  have a1 : nI c + 1 = nI (c + 1) := nI_add c 1
  have a2 : nI c + 2 = nI (c + 2) := nI_add c 2
  have a3 : nI c + 3 = nI (c + 3) := nI_add c 3
  have a4 : nI c + 4 = nI (c + 4) := nI_add c 4
  have a5 : nI c + 5 = nI (c + 5) := nI_add c 5
  have e3 : nI k = 3 ↔ k = 3 := nI_eq (b := 3) (by omega) (by omega)
  have e4 : nI k = 4 ↔ k = 4 := nI_eq (b := 4) (by omega) (by omega)
  have s159 : ∀ (M : Nat → Int32) (b : Int32), onF b = b → yP (xg xs) (d + 2) 261 159 [(0, .ref 52), (2, .int (nI c)), (3, .int (onF (m.1 53 c)))] [.int b, .int (nI (c + 3)), .ref 52] (y_sa m 53 M) (fun r m' => r = none ∧ m' = y_sa m 53 (upd (upd M (c + 3) b) (c + 5) (onF (m.1 53 c)))) := by
    intro M b hb
    refine w261_159 xs (d + 1) _ _ _ _ _ _ ?_
    rw [a5]
    refine y_cv (m258 xs d _ (by omega) b) (by omega) (y_cv (m258 xs d _ (by omega) _) (by omega) ⟨rfl, ?_⟩)
    rw [y_ss, y_ss, onF_o, hb]
  have s116 : ∀ v : Int32, v = ctC k c (m.1 53) → yP (xg xs) (d + 2) 261 116 [(0, .ref 52), (1, .int (nI k)), (2, .int (nI c)), (3, .int (onF (m.1 53 c))), (5, .int (m.1 53 (c + 2))), (6, .int v)] [] m (fun r m' => r = none ∧ m' = y_sa m 53 (ctF k c (m.1 53))) := by
    intro v hv
    subst hv
    unfold ctF
    refine w261_116 xs (d + 1) _ _ _ _ _ m _ ?_
    rw [a3, a4]
    refine y_cv (m234 xs (d + 1) m (by omega) _) (by omega) ?_
    rw [y_s1 m]
    refine ⟨fun z => ⟨fun u => ?_, fun u => ?_⟩, fun z => ⟨fun u => ?_, fun u => ?_⟩⟩
    · rw [if_neg (fun q => z (e3.mpr q)), if_pos u]; exact s159 _ 0 onF_z
    · rw [if_neg (fun q => z (e3.mpr q)), if_neg u]; exact s159 _ 1 onF_1
    · rw [if_pos (e3.mp z), if_pos u]; exact s159 _ 0 onF_z
    · rw [if_pos (e3.mp z), if_neg u]; exact s159 _ 1 onF_1
  have s25 : ∀ b : Int32, (¬ b = 0 ↔ (¬ onF (m.1 53 c) = 0 ∧ onF (m.1 53 (c + 5)) = 0)) → yP (xg xs) (d + 2) 261 25 [(0, .ref 52), (1, .int (nI k)), (2, .int (nI c)), (3, .int (onF (m.1 53 c)))] [.int b] m (fun r m' => r = none ∧ m' = y_sa m 53 (ctF k c (m.1 53))) := by
    intro b hb
    refine w261_25 xs (d + 1) _ _ _ _ m _ ?_
    rw [a1, a2, a4]
    refine y_ci (m247 xs d m (by omega)) (by omega) (y_ci (m247 xs d m (by omega)) (by omega) (y_ci (m256 xs d m (by omega)) (by omega) ⟨fun u => ⟨fun z => ?_, fun z => ⟨fun z2 => ?_, fun z2 => ⟨fun z3 => ?_, fun z3 => ?_⟩⟩⟩, fun u => ⟨fun z => ?_, fun z => ?_⟩⟩))
    · refine w261_95 xs (d + 1) _ _ _ _ _ _ m _ ⟨fun _ => s116 _ ?_, fun q => absurd z q⟩
      unfold ctC
      rw [if_pos u, if_neg (fun q => hb.mpr q z)]
    · have k4 : k = 4 := hk.resolve_left (fun q => z2 (e3.mpr q))
      refine w261_95 xs (d + 1) _ _ _ _ _ _ m _ ⟨fun q => absurd q z, fun _ => ⟨fun q => absurd (e4.mpr k4) q, fun _ => ⟨fun q => s116 _ ?_, fun q => s116 _ ?_⟩⟩⟩
      · unfold ctC
        rw [if_pos u, if_pos (hb.mp z), if_neg (by omega), if_pos q]
      · unfold ctC
        rw [if_pos u, if_pos (hb.mp z), if_neg (by omega), if_neg q]
    · have k3 := e3.mp z2
      refine w261_95 xs (d + 1) _ _ _ _ _ _ m _ ⟨fun q => absurd q z, fun _ => ⟨fun _ => s116 _ ?_, fun q => absurd (e4.mp q) (by omega)⟩⟩
      unfold ctC
      rw [if_pos u, if_pos (hb.mp z), if_pos k3, if_pos z3]
    · have k3 := e3.mp z2
      refine s116 _ ?_
      unfold ctC
      rw [if_pos u, if_pos (hb.mp z), if_pos k3, if_neg z3]
    · refine w261_66 xs (d + 1) _ _ _ _ _ m _ (s116 _ ?_)
      unfold ctC
      rw [if_neg u, if_neg (fun q => z (e3.mpr q))]
    · refine w261_66 xs (d + 1) _ _ _ _ _ m _ (s116 _ ?_)
      unfold ctC
      rw [if_neg u, if_pos (e3.mp z)]
  refine w261_0 xs (d + 1) _ _ m _ ?_
  rw [a5]
  refine y_ci (m256 xs d m (by omega)) (by omega) ⟨fun u => ?_, fun u => ?_⟩
  · exact w261_24 xs (d + 1) _ _ _ m _ (s25 0 ⟨fun q => absurd rfl q, fun q => absurd u q.1⟩)
  · refine y_ci (m256 xs d m (by omega)) (by omega) ⟨fun z => ?_, fun z => ?_⟩
    · exact w261_24 xs (d + 1) _ _ _ m _ (s25 0 ⟨fun q => absurd rfl q, fun q => absurd q.2 z⟩)
    · exact s25 1 ⟨fun _ => ⟨u, z⟩, fun _ => by decide⟩
def egF (k c : Nat) (M : Nat → Int32) : Nat → Int32 := upd (upd M (c + 1) (if k = 5 then (if ¬ onF (M c) = 0 ∧ onF (M (c + 2)) = 0 then 1 else 0) else (if onF (M c) = 0 ∧ ¬ onF (M (c + 2)) = 0 then 1 else 0))) (c + 2) (onF (M c))
def srF (k c : Nat) (M : Nat → Int32) : Nat → Int32 := upd M (c + 2) (if k = 7 then (if ¬ onF (M c) = 0 ∨ (onF (M (c + 1)) = 0 ∧ ¬ onF (M (c + 2)) = 0) then 1 else 0) else (if onF (M (c + 1)) = 0 ∧ (¬ onF (M c) = 0 ∨ ¬ onF (M (c + 2)) = 0) then 1 else 0))
def bkF (k : Nat) (now : Int32) (c : Nat) (M : Nat → Int32) : Nat → Int32 := if k < 3 then tmrF k now c M else if k < 5 then ctF k c M else if k < 7 then egF k c M else srF k c M
def szK (k : Nat) : Nat := if k < 5 then 6 else 3
theorem c254 (xs : List Int32) (d : Nat) (m : yM) {c k : Nat} (h : c + szK k ≤ 8192) (hk : k < 9) : yC (xg xs) (d + 4) 254 [.ref 52, .int (nI k), .int (nI c)] m (fun r m' => r = none ∧ m' = y_sa m 53 (bkF k (m.1 52 1) c (m.1 53))) := by
  have a1 : nI c + 1 = nI (c + 1) := nI_add c 1
  have a2 : nI c + 2 = nI (c + 2) := nI_add c 2
  have e2 : (2 : Int32) < nI k ↔ 2 < k := nI_ltI (a := 2) (by omega) (by omega)
  have e4 : (4 : Int32) < nI k ↔ 4 < k := nI_ltI (a := 4) (by omega) (by omega)
  have e6 : (6 : Int32) < nI k ↔ 6 < k := nI_ltI (a := 6) (by omega) (by omega)
  have e5 : nI k = 5 ↔ k = 5 := nI_eq (b := 5) (by omega) (by omega)
  have e7 : nI k = 7 ↔ k = 7 := nI_eq (b := 7) (by omega) (by omega)
  have h2 : c + 2 < 8192 := by
    unfold szK at h
    split at h <;> omega
  unfold bkF
  refine w254_0 xs (d + 3) _ _ m _ ⟨fun z2 => ⟨fun z4 => ⟨fun z6 => ?_, fun z6 => ?_⟩, fun z4 => ?_⟩, fun z2 => ?_⟩
  · have k6 := e6.mp z6
    rw [if_neg (by omega), if_neg (by omega), if_neg (by omega), a1, a2]
    unfold srF
    have s146 : ∀ b : Int32, onF b = b → ∀ X : Nat → Int32, X = upd (m.1 53) (c + 2) b → yP (xg xs) (d + 4) 254 146 [] [.int b, .int (nI (c + 2)), .ref 52] m (fun r m' => r = none ∧ m' = y_sa m 53 X) := by
      intro b hb X hX
      refine w254_146 xs (d + 3) _ _ m _ (y_cv (m258 xs d m h2 b) (by omega) ⟨rfl, ?_⟩)
      rw [y_s1, hb, hX]
    have s189 : ∀ b : Int32, onF b = b → ∀ X : Nat → Int32, X = upd (m.1 53) (c + 2) b → yP (xg xs) (d + 4) 254 189 [] [.int b, .int (nI (c + 2)), .ref 52] m (fun r m' => r = none ∧ m' = y_sa m 53 X) := by
      intro b hb X hX
      refine w254_189 xs (d + 3) _ _ m _ (y_cv (m258 xs d m h2 b) (by omega) ⟨rfl, ?_⟩)
      rw [y_s1, hb, hX]
    refine ⟨fun z7 => ?_, fun z7 => ?_⟩
    · rw [if_neg (fun q => z7 (e7.mpr q))]
      refine y_ci (m256 xs d m (by omega)) (by omega) ⟨fun u => ?_, fun u => y_ci (m256 xs d m (by omega)) (by omega) ⟨fun v => ?_, fun v => y_ci (m256 xs d m (by omega)) (by omega) ⟨fun w => ?_, fun w => ?_⟩⟩⟩
      · exact w254_188 xs (d + 3) _ m _ (s189 0 onF_z _ (by rw [if_neg (fun q => u q.1)]))
      · exact w254_184 xs (d + 3) _ m _ (s189 1 onF_1 _ (by rw [if_pos ⟨u, Or.inl v⟩]))
      · exact w254_188 xs (d + 3) _ m _ (s189 0 onF_z _ (by rw [if_neg (fun q => q.2.elim (fun y => y v) (fun y => y w))]))
      · exact w254_184 xs (d + 3) _ m _ (s189 1 onF_1 _ (by rw [if_pos ⟨u, Or.inr w⟩]))
    · rw [if_pos (e7.mp z7)]
      refine y_ci (m256 xs d m (by omega)) (by omega) ⟨fun u => ?_, fun u => y_ci (m256 xs d m (by omega)) (by omega) ⟨fun v => ?_, fun v => y_ci (m256 xs d m (by omega)) (by omega) ⟨fun w => ?_, fun w => ?_⟩⟩⟩
      · exact w254_141 xs (d + 3) _ m _ (s146 1 onF_1 _ (by rw [if_pos (Or.inl u)]))
      · exact w254_145 xs (d + 3) _ m _ (s146 0 onF_z _ (by rw [if_neg (fun q => q.elim (fun y => y u) (fun y => v y.1))]))
      · exact w254_145 xs (d + 3) _ m _ (s146 0 onF_z _ (by rw [if_neg (fun q => q.elim (fun y => y u) (fun y => y.2 w))]))
      · exact w254_141 xs (d + 3) _ m _ (s146 1 onF_1 _ (by rw [if_pos (Or.inr ⟨v, w⟩)]))
  · have k4 := e4.mp z4
    have k6 : ¬ 6 < k := fun q => z6 (e6.mpr q)
    rw [if_neg (by omega), if_neg (by omega), if_pos (by omega), a1, a2]
    unfold egF
    have s89 : ∀ b : Int32, onF b = b → ∀ X : Nat → Int32, X = upd (upd (m.1 53) (c + 1) b) (c + 2) (onF (m.1 53 c)) → yP (xg xs) (d + 4) 254 89 [(0, .ref 52), (2, .int (nI c)), (3, .int (onF (m.1 53 c)))] [.int b, .int (nI (c + 1)), .ref 52] m (fun r m' => r = none ∧ m' = y_sa m 53 X) := by
      intro b hb X hX
      refine w254_89 xs (d + 3) _ _ _ _ m _ ?_
      rw [a2]
      refine y_cv (m258 xs d m (by omega) b) (by omega) (y_cv (m258 xs d _ h2 _) (by omega) ⟨rfl, ?_⟩)
      rw [y_s1 m, y_ss, hb, onF_o, hX]
    refine y_ci (m256 xs d m (by omega)) (by omega) (y_ci (m256 xs d m (by omega)) (by omega) ⟨fun z5 => ?_, fun z5 => ?_⟩)
    · rw [if_neg (fun q => z5 (e5.mpr q))]
      refine ⟨fun u => ?_, fun u => ⟨fun v => ?_, fun v => ?_⟩⟩
      · exact w254_88 xs (d + 3) _ _ _ m _ (s89 0 onF_z _ (by rw [if_neg (fun q => u q.1)]))
      · exact w254_88 xs (d + 3) _ _ _ m _ (s89 0 onF_z _ (by rw [if_neg (fun q => q.2 v)]))
      · exact s89 1 onF_1 _ (by rw [if_pos ⟨u, v⟩])
    · rw [if_pos (e5.mp z5)]
      refine ⟨fun u => ?_, fun u => ⟨fun v => ?_, fun v => ?_⟩⟩
      · exact w254_71 xs (d + 3) _ _ _ m _ (s89 0 onF_z _ (by rw [if_neg (fun q => q.1 u)]))
      · exact w254_71 xs (d + 3) _ _ _ m _ (s89 0 onF_z _ (by rw [if_neg (fun q => v q.2)]))
      · exact s89 1 onF_1 _ (by rw [if_pos ⟨u, v⟩])
  · have k2 := e2.mp z2
    have k4 : ¬ 4 < k := fun q => z4 (e4.mpr q)
    unfold szK at h
    rw [if_pos (by omega)] at h
    rw [if_neg (by omega), if_pos (by omega)]
    exact yC.mono (by omega) (fun _ _ q => ⟨q.1, rfl, q.2⟩) (c261 xs d m (by omega) (by omega))
  · have k2 : ¬ 2 < k := fun q => z2 (e2.mpr q)
    unfold szK at h
    rw [if_pos (by omega)] at h
    rw [if_pos (by omega)]
    exact yC.mono (by omega) (fun _ _ q => ⟨q.1, rfl, q.2⟩) (c255 xs d m (by omega) (by omega))
