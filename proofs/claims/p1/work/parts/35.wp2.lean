/-! RULES, second part: returns and branches in clean words -/
section YR2
variable {G : xG} {d y pc len : Nat} {lv : xL} {m : yM} {Q : Option Value → yM → Prop} {M : xM}
theorem y_iret {v : Int32} (hc : xcd y pc = some (.ireturn, len)) (hM : xms y = some M) (hr : M.2.2.2.1 = some .int) (hq : Q (some (.int v)) m) : yP G d y pc lv [.int v] m Q :=
  y_ret hc hM rfl (by rw [hr]; simp [x_ret, narrow]) hq
theorem y_zret {v : Int32} (hc : xcd y pc = some (.ireturn, len)) (hM : xms y = some M) (hr : M.2.2.2.1 = some .boolean) (hv : v = 0 ∨ v = 1) (hq : Q (some (.int v)) m) : yP G d y pc lv [.int v] m Q := by
  refine y_ret hc hM rfl ?_ hq
  rw [hr]
  rcases hv with rfl | rfl <;> rfl
theorem x_fit_i (x : Int32) : x_fit .int (.int x) = true := by simp [x_fit, narrow, fits]
theorem x_fit_l (x : Int64) : x_fit .long (.long x) = true := by simp [x_fit, narrow, fits]
theorem x_fit_z {x : Int32} (h : x = 0 ∨ x = 1) : x_fit .boolean (.int x) = true := by rcases h with rfl | rfl <;> rfl
theorem y_zeq {x : Int32} {off : Int} {rs : List Value} {t : Nat} (hc : xcd y pc = some (.ifCond .eq off, len)) (hM : xms y = some M) (ht : x_to pc off = some t) (k1 : x = 0 → yP G d y t lv rs m Q) (k2 : ¬ x = 0 → yP G d y (pc + 3) lv rs m Q) : yP G d y pc lv (.int x :: rs) m Q :=
  y_if0 hc hM ht (fun h => k1 (of_decide_eq_true h)) (fun h => k2 (of_decide_eq_false h))
theorem y_zne {x : Int32} {off : Int} {rs : List Value} {t : Nat} (hc : xcd y pc = some (.ifCond .ne off, len)) (hM : xms y = some M) (ht : x_to pc off = some t) (k1 : ¬ x = 0 → yP G d y t lv rs m Q) (k2 : x = 0 → yP G d y (pc + 3) lv rs m Q) : yP G d y pc lv (.int x :: rs) m Q :=
  y_if0 hc hM ht (fun h => k1 (of_decide_eq_true h)) (fun h => k2 (Classical.not_not.mp (of_decide_eq_false h)))
theorem y_zlt {x : Int32} {off : Int} {rs : List Value} {t : Nat} (hc : xcd y pc = some (.ifCond .lt off, len)) (hM : xms y = some M) (ht : x_to pc off = some t) (k1 : x < 0 → yP G d y t lv rs m Q) (k2 : ¬ x < 0 → yP G d y (pc + 3) lv rs m Q) : yP G d y pc lv (.int x :: rs) m Q :=
  y_if0 hc hM ht (fun h => k1 (of_decide_eq_true h)) (fun h => k2 (of_decide_eq_false h))
theorem y_zge {x : Int32} {off : Int} {rs : List Value} {t : Nat} (hc : xcd y pc = some (.ifCond .ge off, len)) (hM : xms y = some M) (ht : x_to pc off = some t) (k1 : 0 ≤ x → yP G d y t lv rs m Q) (k2 : ¬ 0 ≤ x → yP G d y (pc + 3) lv rs m Q) : yP G d y pc lv (.int x :: rs) m Q :=
  y_if0 hc hM ht (fun h => k1 (of_decide_eq_true h)) (fun h => k2 (of_decide_eq_false h))
theorem y_zgt {x : Int32} {off : Int} {rs : List Value} {t : Nat} (hc : xcd y pc = some (.ifCond .gt off, len)) (hM : xms y = some M) (ht : x_to pc off = some t) (k1 : 0 < x → yP G d y t lv rs m Q) (k2 : ¬ 0 < x → yP G d y (pc + 3) lv rs m Q) : yP G d y pc lv (.int x :: rs) m Q :=
  y_if0 hc hM ht (fun h => k1 (of_decide_eq_true h)) (fun h => k2 (of_decide_eq_false h))
theorem y_zle {x : Int32} {off : Int} {rs : List Value} {t : Nat} (hc : xcd y pc = some (.ifCond .le off, len)) (hM : xms y = some M) (ht : x_to pc off = some t) (k1 : x ≤ 0 → yP G d y t lv rs m Q) (k2 : ¬ x ≤ 0 → yP G d y (pc + 3) lv rs m Q) : yP G d y pc lv (.int x :: rs) m Q :=
  y_if0 hc hM ht (fun h => k1 (of_decide_eq_true h)) (fun h => k2 (of_decide_eq_false h))
theorem y_ieq {x x2 : Int32} {off : Int} {rs : List Value} {t : Nat} (hc : xcd y pc = some (.if_icmp .eq off, len)) (hM : xms y = some M) (ht : x_to pc off = some t) (k1 : x = x2 → yP G d y t lv rs m Q) (k2 : ¬ x = x2 → yP G d y (pc + 3) lv rs m Q) : yP G d y pc lv (.int x2 :: .int x :: rs) m Q :=
  y_if2 hc hM ht (fun h => k1 (of_decide_eq_true h)) (fun h => k2 (of_decide_eq_false h))
theorem y_ine {x x2 : Int32} {off : Int} {rs : List Value} {t : Nat} (hc : xcd y pc = some (.if_icmp .ne off, len)) (hM : xms y = some M) (ht : x_to pc off = some t) (k1 : ¬ x = x2 → yP G d y t lv rs m Q) (k2 : x = x2 → yP G d y (pc + 3) lv rs m Q) : yP G d y pc lv (.int x2 :: .int x :: rs) m Q :=
  y_if2 hc hM ht (fun h => k1 (of_decide_eq_true h)) (fun h => k2 (Classical.not_not.mp (of_decide_eq_false h)))
theorem y_ilt {x x2 : Int32} {off : Int} {rs : List Value} {t : Nat} (hc : xcd y pc = some (.if_icmp .lt off, len)) (hM : xms y = some M) (ht : x_to pc off = some t) (k1 : x < x2 → yP G d y t lv rs m Q) (k2 : ¬ x < x2 → yP G d y (pc + 3) lv rs m Q) : yP G d y pc lv (.int x2 :: .int x :: rs) m Q :=
  y_if2 hc hM ht (fun h => k1 (of_decide_eq_true h)) (fun h => k2 (of_decide_eq_false h))
theorem y_ige {x x2 : Int32} {off : Int} {rs : List Value} {t : Nat} (hc : xcd y pc = some (.if_icmp .ge off, len)) (hM : xms y = some M) (ht : x_to pc off = some t) (k1 : x2 ≤ x → yP G d y t lv rs m Q) (k2 : ¬ x2 ≤ x → yP G d y (pc + 3) lv rs m Q) : yP G d y pc lv (.int x2 :: .int x :: rs) m Q :=
  y_if2 hc hM ht (fun h => k1 (of_decide_eq_true h)) (fun h => k2 (of_decide_eq_false h))
theorem y_igt {x x2 : Int32} {off : Int} {rs : List Value} {t : Nat} (hc : xcd y pc = some (.if_icmp .gt off, len)) (hM : xms y = some M) (ht : x_to pc off = some t) (k1 : x2 < x → yP G d y t lv rs m Q) (k2 : ¬ x2 < x → yP G d y (pc + 3) lv rs m Q) : yP G d y pc lv (.int x2 :: .int x :: rs) m Q :=
  y_if2 hc hM ht (fun h => k1 (of_decide_eq_true h)) (fun h => k2 (of_decide_eq_false h))
theorem y_ile {x x2 : Int32} {off : Int} {rs : List Value} {t : Nat} (hc : xcd y pc = some (.if_icmp .le off, len)) (hM : xms y = some M) (ht : x_to pc off = some t) (k1 : x ≤ x2 → yP G d y t lv rs m Q) (k2 : ¬ x ≤ x2 → yP G d y (pc + 3) lv rs m Q) : yP G d y pc lv (.int x2 :: .int x :: rs) m Q :=
  y_if2 hc hM ht (fun h => k1 (of_decide_eq_true h)) (fun h => k2 (of_decide_eq_false h))
end YR2
