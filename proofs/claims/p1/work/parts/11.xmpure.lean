/-! pure rows of the abstract machine -/
theorem x_w_get (z : Nat) (ac : Nat → Value) (kA : Nat → ClassId) : ∀ (w : xW) (k i : Nat), (x_w z ac kA k w)[i]? = (w[i]?).map (fun x => (z + (k + i), x_e z ac kA x))
  | [], k, i => by simp [x_w]
  | x :: w, k, 0 => by simp [x_w]
  | x :: w, k, i + 1 => by
    simp only [x_w, List.getElem?_cons_succ]
    rw [x_w_get z ac kA w (k + 1) i, show k + 1 + i = k + (i + 1) by omega]
theorem x_w_get0 {z : Nat} {ac : Nat → Value} {kA : Nat → ClassId} {w : xW} {i : Nat} {x : xE} (h : w[i]? = some x) : (x_w z ac kA 0 w)[i]? = some (z + i, x_e z ac kA x) := by
  rw [x_w_get, h, Nat.zero_add]; rfl
theorem x_w_set (z : Nat) (ac : Nat → Value) (kA : Nat → ClassId) (x : xE) : ∀ (w : xW) (k i : Nat), (x_w z ac kA k w).set i (z + (k + i), x_e z ac kA x) = x_w z ac kA k (w.set i x)
  | [], k, i => by simp [x_w]
  | y :: w, k, 0 => by simp [x_w]
  | y :: w, k, i + 1 => by
    simp only [x_w, List.set_cons_succ]
    rw [← x_w_set z ac kA x w (k + 1) i, show k + 1 + i = k + (i + 1) by omega]
theorem x_w_set0 {z : Nat} {ac : Nat → Value} {kA : Nat → ClassId} (w : xW) (i : Nat) (x : xE) : (x_w z ac kA 0 w).set i (z + i, x_e z ac kA x) = x_w z ac kA 0 (w.set i x) := by
  have h := x_w_set z ac kA x w 0 i
  rwa [Nat.zero_add] at h
theorem x_w_app (z : Nat) (ac : Nat → Value) (kA : Nat → ClassId) (x : xE) : ∀ (w : xW) (k : Nat), x_w z ac kA k (w ++ [x]) = x_w z ac kA k w ++ [(z + (k + w.length), x_e z ac kA x)]
  | [], k => by simp [x_w]
  | y :: w, k => by
    simp only [x_w, List.cons_append, List.length_cons]
    rw [x_w_app z ac kA x w (k + 1), show k + 1 + w.length = k + (w.length + 1) by omega]
theorem x_w_app0 {z : Nat} {ac : Nat → Value} {kA : Nat → ClassId} (w : xW) (x : xE) : x_w z ac kA 0 (w ++ [x]) = x_w z ac kA 0 w ++ [(z + w.length, x_e z ac kA x)] := by
  rw [x_w_app, Nat.zero_add]
theorem x_wD (z : Nat) (ac : Nat → Value) (kA : Nat → ClassId) (w : xW) : va_D (fun q => z ≤ q) (x_w z ac kA 0 w) := by
  have key : ∀ (i : Nat) (q : Nat × va_E), (x_w z ac kA 0 w)[i]? = some q → q.1 = z + i := by
    intro i q h
    rw [x_w_get] at h
    cases hw : w[i]? with
    | none => rw [hw] at h; cases h
    | some x => rw [hw] at h; cases h; show z + (0 + i) = z + i; omega
  refine ⟨fun i j p q hi hj e => ?_, fun k q h => ?_⟩
  · have h1 := key i p hi
    have h2 := key j q hj
    omega
  · have h1 := key k q h
    show z ≤ q.1
    omega
theorem x_v_cat {z : Nat} {ac : Nat → Value} (hac : ∀ k, (ac k).category = 1) (v : Value) : (x_v z ac v).category = v.category := by
  cases v <;> simp [x_v, Value.category, hac] <;> exact hac _
theorem x_lk_at {z : Nat} {ac : Nat → Value} {ls : Array Slot} {nL : Nat} : ∀ {lv : xL} {i : Nat} {v : Value}, lv_has ls nL (x_lm z ac lv) → x_lk i lv = some v → ls[i]? = some (.val (x_v z ac v)) := by
  intro lv i v h hk
  have key : ∀ lv : xL, x_lk i lv = some v → (i, x_v z ac v) ∈ x_lm z ac lv := by
    intro lv
    induction lv with
    | nil => intro h; cases h
    | cons q l ih =>
      intro h
      unfold x_lk at h
      by_cases hq : q.1 = i
      · rw [if_pos hq] at h
        cases h
        subst hq
        exact List.mem_cons_self
      · rw [if_neg hq] at h
        exact List.mem_cons_of_mem _ (ih h)
  exact h.2.2 (i, x_v z ac v) (key lv hk)
theorem x_lk_ix {z : Nat} {ac : Nat → Value} : ∀ {lv : xL} {i : Nat} {v : Value}, x_lk i lv = some v → ∃ k : Nat, (x_lm z ac lv)[k]? = some (i, x_v z ac v) := by
  intro lv i v
  induction lv with
  | nil => intro h; cases h
  | cons q l ih =>
    intro h
    unfold x_lk at h
    by_cases hq : q.1 = i
    · rw [if_pos hq] at h
      cases h
      subst hq
      exact ⟨0, rfl⟩
    · rw [if_neg hq] at h
      obtain ⟨k, hk⟩ := ih h
      exact ⟨k + 1, hk⟩
theorem x_s1_lm {z : Nat} {ac : Nat → Value} (hac : ∀ k, (ac k).category = 1) (i : Nat) (v : Value) (lv : xL) : (i, x_v z ac v) :: (x_lm z ac lv).filter (fun q => !(q.1 == i) && !(q.1 + 1 == i && q.2.category == 2)) = x_lm z ac (x_s1 i v lv) := by
  unfold x_s1 x_lm
  rw [List.map_cons, List.filter_map]
  congr 2
  refine List.filter_congr fun q _ => ?_
  show (!(q.1 == i) && !(q.1 + 1 == i && (x_v z ac q.2).category == 2)) = _
  rw [x_v_cat hac]
theorem x_s2_lm {z : Nat} {ac : Nat → Value} (hac : ∀ k, (ac k).category = 1) (i : Nat) (v : Value) (lv : xL) : (i, x_v z ac v) :: (x_lm z ac lv).filter (fun q => !(q.1 == i) && (!(q.1 == i + 1) && !(q.1 + 1 == i && q.2.category == 2))) = x_lm z ac (x_s2 i v lv) := by
  unfold x_s2 x_lm
  rw [List.map_cons, List.filter_map]
  congr 2
  refine List.filter_congr fun q _ => ?_
  show (!(q.1 == i) && (!(q.1 == i + 1) && !(q.1 + 1 == i && (x_v z ac q.2).category == 2))) = _
  rw [x_v_cat hac]
theorem x_args_lm {z : Nat} {ac : Nat → Value} (hac : ∀ k, (ac k).category = 1) : ∀ (as : List Value) (i : Nat), lv_args i (as.map (x_v z ac)) = x_lm z ac (lv_args i as)
  | [], i => rfl
  | v :: as, i => by
    show (i, x_v z ac v) :: lv_args _ (as.map (x_v z ac)) = (i, x_v z ac v) :: x_lm z ac (lv_args _ as)
    rw [x_v_cat hac, x_args_lm hac as]
theorem x_cat_map {z : Nat} {ac : Nat → Value} (hac : ∀ k, (ac k).category = 1) (st : List Value) : ((st.map (x_v z ac)).map fun v => v.category).sum = x_cat st := by
  unfold x_cat
  rw [List.map_map]
  congr 1
  exact List.map_congr_left fun v _ => x_v_cat hac v
theorem x_sl_len : ∀ (vs : List Value), (lg_sl vs).length ≤ x_cat vs
  | [] => Nat.le_refl 0
  | v :: vs => by
    have h := x_sl_len vs
    have e1 : lg_sl (v :: vs) = (if v.category = 2 then [.val v, .second] else [.val v]) ++ lg_sl vs := rfl
    have e2 : x_cat (v :: vs) = v.category + x_cat vs := by simp [x_cat]
    rw [e1, e2, List.length_append]
    have h1 : 1 ≤ v.category := by cases v <;> simp [Value.category]
    by_cases hc : v.category = 2
    · rw [if_pos hc]; simp only [List.length_cons, List.length_nil]; omega
    · rw [if_neg hc]; simp only [List.length_cons, List.length_nil]; omega
theorem x_to_spec {pc : Nat} {off : Int} {t : Nat} (h : x_to pc off = some t) : (pc : Int) + off = (t : Int) := by
  unfold x_to at h
  cases he : (pc : Int) + off with
  | ofNat q => rw [he] at h; cases h; rfl
  | negSucc q => rw [he] at h; cases h
theorem x_in_spec {i : Int32} {n : Nat} (h : x_in i n = true) : vp_in i n := by
  unfold x_in at h
  unfold vp_in
  intro hq
  rcases hq with hq | hq <;> simp [hq] at h
