/-! picking an order -/
theorem x_range_pick {α : Type} : ∀ (l : List α), (List.range l.length).filterMap (fun i => l[i]?) = l
  | [] => rfl
  | a :: l => by
    rw [List.length_cons, List.range_succ_eq_map, List.filterMap_cons]
    show a :: List.filterMap (fun i => (a :: l)[i]?) (List.map Nat.succ (List.range l.length)) = a :: l
    rw [List.filterMap_map]
    congr 1
    exact x_range_pick l
theorem x_pick_perm {α : Type} {l1 l2 : List α} (ps : List Nat) (hps : ps.Perm (List.range l1.length)) (h : l2 = ps.filterMap (fun i => l1[i]?)) : l2.Perm l1 := by
  rw [h]
  have h1 := hps.filterMap (fun i => l1[i]?)
  rwa [x_range_pick] at h1
/-- at a loop's head: the locals in the order that its row has them -/
theorem y_head {G : xG} {d y pc : Nat} {l1 l2 : xL} {st : List Value} {m : yM} {Q : Option Value → yM → Prop} (ps ks : List Nat) (n : Nat) (hlen : l1.length = n) (hps : ps.Perm (List.range n)) (h : l2 = ps.filterMap (fun i => l1[i]?)) (hk : l2.map (fun q => q.1) = ks) (hn : ks.Nodup) (k : yP G d y pc l2 st m Q) : yP G d y pc l1 st m Q :=
  y_perm (x_pick_perm ps (by rw [hlen]; exact hps) h) (by unfold x_nd; rw [hk]; exact hn) k
theorem y_si_same (m : yM) (k i : Nat) (v : Int32) : (y_si m k i v).1 k i = v := by simp [y_si, upd]
theorem y_si_cell (m : yM) {k a : Nat} (i : Nat) (v : Int32) (h : a ≠ k) : (y_si m k i v).1 a = m.1 a := by simp [y_si, h]
theorem y_si_ix (m : yM) (k : Nat) {i b : Nat} (v : Int32) (h : b ≠ i) : (y_si m k i v).1 k b = m.1 k b := by simp [y_si, upd, h]
theorem y_si_at (m : yM) (k i a b : Nat) (v : Int32) : (y_si m k i v).1 a b = if a = k ∧ b = i then v else m.1 a b := by
  by_cases h : a = k
  · subst h
    by_cases h2 : b = i
    · subst h2; simp [y_si, upd]
    · simp [y_si, upd, h2]
  · simp [y_si, h]
theorem y_si_2 (m : yM) (k i : Nat) (v : Int32) : (y_si m k i v).2 = m.2 := rfl
theorem y_sl_1 (m : yM) (k i : Nat) (v : Int64) : (y_sl m k i v).1 = m.1 := rfl
theorem y_sl_at (m : yM) (k i a b : Nat) (v : Int64) : (y_sl m k i v).2 a b = if a = k ∧ b = i then v else m.2 a b := by
  by_cases h : a = k
  · subst h
    by_cases h2 : b = i
    · subst h2; simp [y_sl, vp_updL]
    · simp [y_sl, vp_updL, h2]
  · simp [y_sl, h]
/-- an index that is a natural number below the bound -/
theorem x_in_nI {n N : Nat} (h : n < N) (hN : N < 2 ^ 31) : x_in (nI n) N = true := by
  have h1 := vp_in_nI h hN
  unfold vp_in at h1
  unfold x_in
  simp only [not_or] at h1
  simp [h1.1, h1.2]
