/-! A STEP: branches first -/
theorem x_if_spec {pc : Nat} {off : Int} {b : Bool} {t : Nat} (h : x_if pc off b = some t) : ∃ t0, x_to pc off = some t0 ∧ t = if b = true then t0 else pc + 3 := by
  unfold x_if at h
  cases ht : x_to pc off with
  | none => rw [ht] at h; cases h
  | some t0 => rw [ht] at h; cases h; exact ⟨t0, rfl, rfl⟩
section X15
variable {p : Program} {l : Launch} {e : Env} {R : Room} {s : State} {m : MethodId} {args : Array Value} {below : List Frame} {meth : Method} {c : Code} {H : Heap} {locs : List Loc} {cells slots : Nat} {Q : State → Prop}
variable {cc : ByteArray} {pc : Nat} {ls : Array Slot} {rest : List Value}
theorem x_b0eq (hexec : p.tables.exec = Jvm.exec) (hb : c.code = cc) {x : Int32} {off : Int} {t : Nat} (hdg : decode cc pc = .ok (.ifCond .eq off, 3)) (h : x_if pc off (x_c0 .eq x) = some t) (k : W p l e R s m args below meth c H locs cells slots Q (F0 m t ls rest)) : W p l e R s m args below meth c H locs cells slots Q (F0 m pc ls (.int x :: rest)) := by
  obtain ⟨t0, h0, rfl⟩ := x_if_spec h
  refine lv_if_eq hexec hb hdg (x_to_spec h0) (fun c1 => ?_) (fun c1 => ?_)
  · rw [if_pos (show x_c0 .eq x = true from decide_eq_true c1)] at k; exact k
  · rw [if_neg (show ¬ x_c0 .eq x = true from fun z => c1 (of_decide_eq_true z))] at k; exact k
theorem x_b0ne (hexec : p.tables.exec = Jvm.exec) (hb : c.code = cc) {x : Int32} {off : Int} {t : Nat} (hdg : decode cc pc = .ok (.ifCond .ne off, 3)) (h : x_if pc off (x_c0 .ne x) = some t) (k : W p l e R s m args below meth c H locs cells slots Q (F0 m t ls rest)) : W p l e R s m args below meth c H locs cells slots Q (F0 m pc ls (.int x :: rest)) := by
  obtain ⟨t0, h0, rfl⟩ := x_if_spec h
  refine lv_if_ne hexec hb hdg (x_to_spec h0) (fun c1 => ?_) (fun c1 => ?_)
  · rw [if_pos (show x_c0 .ne x = true from decide_eq_true c1)] at k; exact k
  · rw [if_neg (show ¬ x_c0 .ne x = true from fun z => (of_decide_eq_true (p := ¬ x = 0) z) c1)] at k; exact k
theorem x_b0lt (hexec : p.tables.exec = Jvm.exec) (hb : c.code = cc) {x : Int32} {off : Int} {t : Nat} (hdg : decode cc pc = .ok (.ifCond .lt off, 3)) (h : x_if pc off (x_c0 .lt x) = some t) (k : W p l e R s m args below meth c H locs cells slots Q (F0 m t ls rest)) : W p l e R s m args below meth c H locs cells slots Q (F0 m pc ls (.int x :: rest)) := by
  obtain ⟨t0, h0, rfl⟩ := x_if_spec h
  refine lv_if_lt hexec hb hdg (x_to_spec h0) (fun c1 => ?_) (fun c1 => ?_)
  · rw [if_pos (show x_c0 .lt x = true from decide_eq_true c1)] at k; exact k
  · rw [if_neg (show ¬ x_c0 .lt x = true from fun z => c1 (of_decide_eq_true z))] at k; exact k
theorem x_b0ge (hexec : p.tables.exec = Jvm.exec) (hb : c.code = cc) {x : Int32} {off : Int} {t : Nat} (hdg : decode cc pc = .ok (.ifCond .ge off, 3)) (h : x_if pc off (x_c0 .ge x) = some t) (k : W p l e R s m args below meth c H locs cells slots Q (F0 m t ls rest)) : W p l e R s m args below meth c H locs cells slots Q (F0 m pc ls (.int x :: rest)) := by
  obtain ⟨t0, h0, rfl⟩ := x_if_spec h
  refine lv_if_ge hexec hb hdg (x_to_spec h0) (fun c1 => ?_) (fun c1 => ?_)
  · rw [if_pos (show x_c0 .ge x = true from decide_eq_true c1)] at k; exact k
  · rw [if_neg (show ¬ x_c0 .ge x = true from fun z => c1 (of_decide_eq_true z))] at k; exact k
theorem x_b0gt (hexec : p.tables.exec = Jvm.exec) (hb : c.code = cc) {x : Int32} {off : Int} {t : Nat} (hdg : decode cc pc = .ok (.ifCond .gt off, 3)) (h : x_if pc off (x_c0 .gt x) = some t) (k : W p l e R s m args below meth c H locs cells slots Q (F0 m t ls rest)) : W p l e R s m args below meth c H locs cells slots Q (F0 m pc ls (.int x :: rest)) := by
  obtain ⟨t0, h0, rfl⟩ := x_if_spec h
  refine lv_if_gt hexec hb hdg (x_to_spec h0) (fun c1 => ?_) (fun c1 => ?_)
  · rw [if_pos (show x_c0 .gt x = true from decide_eq_true c1)] at k; exact k
  · rw [if_neg (show ¬ x_c0 .gt x = true from fun z => c1 (of_decide_eq_true z))] at k; exact k
theorem x_b0le (hexec : p.tables.exec = Jvm.exec) (hb : c.code = cc) {x : Int32} {off : Int} {t : Nat} (hdg : decode cc pc = .ok (.ifCond .le off, 3)) (h : x_if pc off (x_c0 .le x) = some t) (k : W p l e R s m args below meth c H locs cells slots Q (F0 m t ls rest)) : W p l e R s m args below meth c H locs cells slots Q (F0 m pc ls (.int x :: rest)) := by
  obtain ⟨t0, h0, rfl⟩ := x_if_spec h
  refine lv_if_le hexec hb hdg (x_to_spec h0) (fun c1 => ?_) (fun c1 => ?_)
  · rw [if_pos (show x_c0 .le x = true from decide_eq_true c1)] at k; exact k
  · rw [if_neg (show ¬ x_c0 .le x = true from fun z => c1 (of_decide_eq_true z))] at k; exact k
theorem x_b2eq (hexec : p.tables.exec = Jvm.exec) (hb : c.code = cc) {x y : Int32} {off : Int} {t : Nat} (hdg : decode cc pc = .ok (.if_icmp .eq off, 3)) (h : x_if pc off (x_c2 .eq x y) = some t) (k : W p l e R s m args below meth c H locs cells slots Q (F0 m t ls rest)) : W p l e R s m args below meth c H locs cells slots Q (F0 m pc ls (.int y :: .int x :: rest)) := by
  obtain ⟨t0, h0, rfl⟩ := x_if_spec h
  refine lv_icmp_eq hexec hb hdg (x_to_spec h0) (fun c1 => ?_) (fun c1 => ?_)
  · rw [if_pos (show x_c2 .eq x y = true from decide_eq_true c1)] at k; exact k
  · rw [if_neg (show ¬ x_c2 .eq x y = true from fun z => c1 (of_decide_eq_true z))] at k; exact k
theorem x_b2ne (hexec : p.tables.exec = Jvm.exec) (hb : c.code = cc) {x y : Int32} {off : Int} {t : Nat} (hdg : decode cc pc = .ok (.if_icmp .ne off, 3)) (h : x_if pc off (x_c2 .ne x y) = some t) (k : W p l e R s m args below meth c H locs cells slots Q (F0 m t ls rest)) : W p l e R s m args below meth c H locs cells slots Q (F0 m pc ls (.int y :: .int x :: rest)) := by
  obtain ⟨t0, h0, rfl⟩ := x_if_spec h
  refine lv_icmp_ne hexec hb hdg (x_to_spec h0) (fun c1 => ?_) (fun c1 => ?_)
  · rw [if_pos (show x_c2 .ne x y = true from decide_eq_true c1)] at k; exact k
  · rw [if_neg (show ¬ x_c2 .ne x y = true from fun z => (of_decide_eq_true (p := ¬ x = y) z) c1)] at k; exact k
theorem x_b2lt (hexec : p.tables.exec = Jvm.exec) (hb : c.code = cc) {x y : Int32} {off : Int} {t : Nat} (hdg : decode cc pc = .ok (.if_icmp .lt off, 3)) (h : x_if pc off (x_c2 .lt x y) = some t) (k : W p l e R s m args below meth c H locs cells slots Q (F0 m t ls rest)) : W p l e R s m args below meth c H locs cells slots Q (F0 m pc ls (.int y :: .int x :: rest)) := by
  obtain ⟨t0, h0, rfl⟩ := x_if_spec h
  refine lv_icmp_lt hexec hb hdg (x_to_spec h0) (fun c1 => ?_) (fun c1 => ?_)
  · rw [if_pos (show x_c2 .lt x y = true from decide_eq_true c1)] at k; exact k
  · rw [if_neg (show ¬ x_c2 .lt x y = true from fun z => c1 (of_decide_eq_true z))] at k; exact k
theorem x_b2ge (hexec : p.tables.exec = Jvm.exec) (hb : c.code = cc) {x y : Int32} {off : Int} {t : Nat} (hdg : decode cc pc = .ok (.if_icmp .ge off, 3)) (h : x_if pc off (x_c2 .ge x y) = some t) (k : W p l e R s m args below meth c H locs cells slots Q (F0 m t ls rest)) : W p l e R s m args below meth c H locs cells slots Q (F0 m pc ls (.int y :: .int x :: rest)) := by
  obtain ⟨t0, h0, rfl⟩ := x_if_spec h
  refine lv_icmp_ge hexec hb hdg (x_to_spec h0) (fun c1 => ?_) (fun c1 => ?_)
  · rw [if_pos (show x_c2 .ge x y = true from decide_eq_true c1)] at k; exact k
  · rw [if_neg (show ¬ x_c2 .ge x y = true from fun z => c1 (of_decide_eq_true z))] at k; exact k
theorem x_b2gt (hexec : p.tables.exec = Jvm.exec) (hb : c.code = cc) {x y : Int32} {off : Int} {t : Nat} (hdg : decode cc pc = .ok (.if_icmp .gt off, 3)) (h : x_if pc off (x_c2 .gt x y) = some t) (k : W p l e R s m args below meth c H locs cells slots Q (F0 m t ls rest)) : W p l e R s m args below meth c H locs cells slots Q (F0 m pc ls (.int y :: .int x :: rest)) := by
  obtain ⟨t0, h0, rfl⟩ := x_if_spec h
  refine lv_icmp_gt hexec hb hdg (x_to_spec h0) (fun c1 => ?_) (fun c1 => ?_)
  · rw [if_pos (show x_c2 .gt x y = true from decide_eq_true c1)] at k; exact k
  · rw [if_neg (show ¬ x_c2 .gt x y = true from fun z => c1 (of_decide_eq_true z))] at k; exact k
theorem x_b2le (hexec : p.tables.exec = Jvm.exec) (hb : c.code = cc) {x y : Int32} {off : Int} {t : Nat} (hdg : decode cc pc = .ok (.if_icmp .le off, 3)) (h : x_if pc off (x_c2 .le x y) = some t) (k : W p l e R s m args below meth c H locs cells slots Q (F0 m t ls rest)) : W p l e R s m args below meth c H locs cells slots Q (F0 m pc ls (.int y :: .int x :: rest)) := by
  obtain ⟨t0, h0, rfl⟩ := x_if_spec h
  refine lv_icmp_le hexec hb hdg (x_to_spec h0) (fun c1 => ?_) (fun c1 => ?_)
  · rw [if_pos (show x_c2 .le x y = true from decide_eq_true c1)] at k; exact k
  · rw [if_neg (show ¬ x_c2 .le x y = true from fun z => c1 (of_decide_eq_true z))] at k; exact k
end X15
