/-! THE REFERENCE'S RULES: a standard function, as the class sees it -/
def stP (f t1 t2 t3 an wd : Int32) : Int32 := if f = 4 then (if t1 = 0 then cmT t2 t3 else -1) else if f = 5 ∨ f = 6 then (if an = 0 then -1 else t1) else if f = 7 then 1 else if f = 8 then 2 else if f = 9 then (if an = 0 then -1 else 0) else (if an = 0 then -1 else wd)
theorem stP_n {f : Int32} (h : ¬ f = 4) (t1 t2 t3 an wd : Int32) : stP f t1 t2 t3 an wd = stP f t1 0 0 an wd := by
  unfold stP
  rw [if_neg h, if_neg h]
def nzT (t : Int32) : Int32 := if t = 0 then 0 else 1
def mxT (a t : Int32) : Int32 := if a < t then t else a
def rsT (s : Nat) (t1 t2 t3 : Int32) : Int32 := if bdS s t1 t2 t3 = true then -1 else tyS s t1 t2 t3
def ty3L : List Int32 := [0, 1, 2]
theorem ty3_m {x : Int32} (h : ty3 x) : x ∈ ty3L := by
  rcases h with rfl | rfl | rfl <;> decide
theorem st1 : ([0, 7, 8, 9] : List Nat).all (fun s => ty3L.all (fun t => decide (stP (nI s) t 0 0 (1 &&& nzT t) (mxT 0 t) = rsT s t t t))) = true := by decide +kernel
theorem st2 : ([1, 2, 5, 6] : List Nat).all (fun s => ty3L.all (fun t => ty3L.all (fun u => decide (stP (nI s) t 0 0 (1 &&& nzT t &&& nzT u) (mxT (mxT 0 t) u) = rsT s t u u)))) = true := by decide +kernel
theorem st3 : ([3, 4] : List Nat).all (fun s => ty3L.all (fun t => ty3L.all (fun u => ty3L.all (fun w => decide (stP (nI s) t u w (1 &&& nzT t &&& nzT u &&& nzT w) (mxT (mxT (mxT 0 t) u) w) = rsT s t u w))))) = true := by decide +kernel
theorem rsT_m : (List.range 10).all (fun s => ty3L.all (fun t => ty3L.all (fun u => ty3L.all (fun w => decide ((tyS s t u w = -1) = False))))) = true := by decide +kernel
/-- the operands that are read -/
def kdS (F : List ND) (n s k2 k3 : Nat) : Prop := (([0, 7, 8, 9] : List Nat).contains s = true ∧ kids F n = [n + 1] ∧ k2 = n + 1 ∧ k3 = n + 1) ∨ (([1, 2, 5, 6] : List Nat).contains s = true ∧ kids F n = [n + 1, kd2 F n] ∧ k2 = kd2 F n ∧ k3 = kd2 F n) ∨ (([3, 4] : List Nat).contains s = true ∧ kids F n = [n + 1, kd2 F n, kd3 F n] ∧ k2 = kd2 F n ∧ k3 = kd3 F n)
theorem kdS.ty {F : List ND} {σ : RS} {n s k2 k3 : Nat} (h : kdS F n s k2 k3) (h1 : ty3 (σ.2.2.2.2 (n + 1))) (h2 : ty3 (σ.2.2.2.2 k2)) (h3 : ty3 (σ.2.2.2.2 k3)) : stT F σ n (nI s) (anT σ (kids F n) 1) (wdT σ (kids F n) 0) = rsT s (σ.2.2.2.2 (n + 1)) (σ.2.2.2.2 k2) (σ.2.2.2.2 k3) := by
  have e : ∀ an wd, stT F σ n (nI s) an wd = stP (nI s) (σ.2.2.2.2 (n + 1)) (σ.2.2.2.2 (kd2 F n)) (σ.2.2.2.2 (kd3 F n)) an wd := fun _ _ => rfl
  rw [e]
  rcases h with ⟨m1, hk, rfl, rfl⟩ | ⟨m1, hk, rfl, rfl⟩ | ⟨m1, hk, rfl, rfl⟩
  · have ms := List.contains_iff_mem.mp m1
    have n4 : ¬ nI s = 4 := by
      have : ∀ s, s ∈ ([0, 7, 8, 9] : List Nat) → ¬ nI s = 4 := by decide
      exact this s ms
    rw [hk, stP_n n4]
    have := st1
    rw [List.all_eq_true] at this
    have := this s ms
    rw [List.all_eq_true] at this
    exact decide_eq_true_iff.mp (this _ (ty3_m h1))
  · have ms := List.contains_iff_mem.mp m1
    have n4 : ¬ nI s = 4 := by
      have : ∀ s, s ∈ ([1, 2, 5, 6] : List Nat) → ¬ nI s = 4 := by decide
      exact this s ms
    rw [hk, stP_n n4]
    have := st2
    rw [List.all_eq_true] at this
    have := this s ms
    rw [List.all_eq_true] at this
    have := this _ (ty3_m h1)
    rw [List.all_eq_true] at this
    exact decide_eq_true_iff.mp (this _ (ty3_m h2))
  · have ms := List.contains_iff_mem.mp m1
    rw [hk]
    have := st3
    rw [List.all_eq_true] at this
    have := this s ms
    rw [List.all_eq_true] at this
    have := this _ (ty3_m h1)
    rw [List.all_eq_true] at this
    have := this _ (ty3_m h2)
    rw [List.all_eq_true] at this
    exact decide_eq_true_iff.mp (this _ (ty3_m h3))
theorem tyS_m {s : Nat} (hs : s < 10) {t u w : Int32} (h1 : ty3 t) (h2 : ty3 u) (h3 : ty3 w) : ¬ tyS s t u w = -1 := by
  have := rsT_m
  rw [List.all_eq_true] at this
  have := this s (List.mem_range.mpr hs)
  rw [List.all_eq_true] at this
  have := this _ (ty3_m h1)
  rw [List.all_eq_true] at this
  have := this _ (ty3_m h2)
  rw [List.all_eq_true] at this
  have := decide_eq_true_iff.mp (this _ (ty3_m h3))
  rw [this]
  exact fun z => z
theorem kdS.cl {F : List ND} {σ : RS} {n s k2 k3 : Nat} (h : kdS F n s k2 k3) (f T : Int32) (n2 : ¬ kd2 F n = n) (n3 : ¬ kd3 F n = n) : clD F (setT (setV σ n f) n T) n s = cl3 (nI s) (σ.2.2.2.2 (n + 1)) (σ.2.2.2.1 (n + 1)) (σ.2.2.2.1 k2) (σ.2.2.2.1 k3) := by
  have v1 : (setT (setV σ n f) n T).2.2.2.1 (n + 1) = σ.2.2.2.1 (n + 1) := upI_o _ _ (by omega)
  have t1 : (setT (setV σ n f) n T).2.2.2.2 (n + 1) = σ.2.2.2.2 (n + 1) := upI_o _ _ (by omega)
  have v2 : (setT (setV σ n f) n T).2.2.2.1 (kd2 F n) = σ.2.2.2.1 (kd2 F n) := upI_o _ _ n2
  have v3 : (setT (setV σ n f) n T).2.2.2.1 (kd3 F n) = σ.2.2.2.1 (kd3 F n) := upI_o _ _ n3
  unfold clD
  rw [v1, t1]
  rcases h with ⟨m1, hk, rfl, rfl⟩ | ⟨m1, hk, rfl, rfl⟩ | ⟨m1, hk, rfl, rfl⟩
  · have ms := List.contains_iff_mem.mp m1
    simp only [List.mem_cons, List.not_mem_nil, or_false] at ms
    rcases ms with rfl | rfl | rfl | rfl
    · rw [cl_0, if_neg (by decide), if_neg (by decide), if_neg (by decide), if_pos (by decide)]; rfl
    · rw [cl_7, if_neg (by decide), if_neg (by decide), if_neg (by decide), if_pos (by decide)]; rfl
    · rw [cl_8, if_neg (by decide), if_neg (by decide), if_pos (by decide)]
    · rw [cl_9, if_neg (by decide), if_neg (by decide), if_neg (by decide), if_pos (by decide)]; rfl
  · have ms := List.contains_iff_mem.mp m1
    have o2 : op2 F n s = kd2 F n := by
      have : ∀ s, s ∈ ([1, 2, 5, 6] : List Nat) → ¬ xar_5.getD s 0 ≤ 1 := by decide
      unfold op2
      rw [if_neg (this s ms)]
    rw [o2, v2]
    simp only [List.mem_cons, List.not_mem_nil, or_false] at ms
    rcases ms with rfl | rfl | rfl | rfl
    · rw [cl_1, if_neg (by decide), if_neg (by decide), if_neg (by decide), if_neg (by decide)]; rfl
    · rw [cl_2, if_neg (by decide), if_neg (by decide), if_neg (by decide), if_neg (by decide)]; rfl
    · rw [cl_5, if_neg (by decide), if_neg (by decide), if_neg (by decide), if_neg (by decide)]; rfl
    · rw [cl_6, if_neg (by decide), if_neg (by decide), if_neg (by decide), if_neg (by decide)]; rfl
  · have ms := List.contains_iff_mem.mp m1
    have o2 : op2 F n s = kd2 F n := by
      have : ∀ s, s ∈ ([3, 4] : List Nat) → ¬ xar_5.getD s 0 ≤ 1 := by decide
      unfold op2
      rw [if_neg (this s ms)]
    have o3 : op3 F n s = kd3 F n := by
      have : ∀ s, s ∈ ([3, 4] : List Nat) → ¬ xar_5.getD s 0 ≤ 2 := by decide
      unfold op3
      rw [if_neg (this s ms), o2]
    rw [o2, o3, v2, v3]
    simp only [List.mem_cons, List.not_mem_nil, or_false] at ms
    rcases ms with rfl | rfl
    · rw [cl_3, if_pos (by decide)]
    · rw [cl_4, if_neg (by decide), if_pos (by decide)]
/-- what the class says of a standard function is what the reference comes to -/
theorem kdS.res {F : List ND} {σ : RS} {n s k2 k3 : Nat} (h : kdS F n s k2 k3) (hs : s < 10) (hf : fBlk σ 1 50 60 10 (σ.2.2.2.1 n) = nI s) (h1 : ty3 (σ.2.2.2.2 (n + 1))) (h2 : ty3 (σ.2.2.2.2 k2)) (h3 : ty3 (σ.2.2.2.2 k3)) (n2 : ¬ kd2 F n = n) (n3 : ¬ kd3 F n = n) : lkCall F σ n = resS σ n s (n + 1) k2 k3 := by
  unfold lkCall resS
  rw [hf]
  have n10 : ¬ 10 ≤ nI s := fun z => by
    have := (nI_leI (a := 10) (by omega) (by omega)).mp z
    omega
  have ew : wantC σ (nI s) = nI (kids F n).length := by
    unfold wantC
    rw [if_neg n10, nI_clamp (by omega)]
    rcases h with ⟨m1, hk, -, -⟩ | ⟨m1, hk, -, -⟩ | ⟨m1, hk, -, -⟩
    · have : ∀ s, s ∈ ([0, 7, 8, 9] : List Nat) → xar_5.getD s 0 = nI 1 := by decide
      rw [hk, this s (List.contains_iff_mem.mp m1)]; rfl
    · have : ∀ s, s ∈ ([1, 2, 5, 6] : List Nat) → xar_5.getD s 0 = nI 2 := by decide
      rw [hk, this s (List.contains_iff_mem.mp m1)]; rfl
    · have : ∀ s, s ∈ ([3, 4] : List Nat) → xar_5.getD s 0 = nI 3 := by decide
      rw [hk, this s (List.contains_iff_mem.mp m1)]; rfl
  have et : typC F σ n (nI s) = rsT s (σ.2.2.2.2 (n + 1)) (σ.2.2.2.2 k2) (σ.2.2.2.2 k3) := by
    unfold typC
    rw [if_neg n10]
    exact h.ty h1 h2 h3
  have al : ∀ T, ((kids F n).all (cnB (setT (setV σ n (nI s)) n T)) = true) ↔ (cnP σ (n + 1) ∧ cnP σ k2 ∧ cnP σ k3) := by
    intro T
    have ec : ∀ i, cnB (setT (setV σ n (nI s)) n T) i = decide (cnP σ i) := fun i => rfl
    rcases h with ⟨m1, hk, rfl, rfl⟩ | ⟨m1, hk, rfl, rfl⟩ | ⟨m1, hk, rfl, rfl⟩
    · rw [hk]
      simp only [List.all_cons, List.all_nil, Bool.and_true, ec, decide_eq_true_eq]
      exact ⟨fun z => ⟨z, z, z⟩, fun z => z.1⟩
    · rw [hk]
      simp only [List.all_cons, List.all_nil, Bool.and_true, Bool.and_eq_true, ec, decide_eq_true_eq]
      exact ⟨fun z => ⟨z.1, z.2, z.2⟩, fun z => ⟨z.1, z.2.1⟩⟩
    · rw [hk]
      simp only [List.all_cons, List.all_nil, Bool.and_true, Bool.and_eq_true, ec, decide_eq_true_eq]
  have tm := tyS_m hs h1 h2 h3
  rw [if_neg (nI_m1 (by omega)), if_neg (fun z => z ew.symm), et]
  unfold rsT
  by_cases b : bdS s (σ.2.2.2.2 (n + 1)) (σ.2.2.2.2 k2) (σ.2.2.2.2 k3) = true
  · rw [if_pos b, if_pos b, if_pos rfl]
  · rw [if_neg b, if_neg b, if_neg tm]
    by_cases c : cnP σ (n + 1) ∧ cnP σ k2 ∧ cnP σ k3
    · rw [if_pos ⟨n10, (al _).mpr c⟩, if_pos c, nI_clamp (by omega), h.cl _ _ n2 n3, bcN_v]
    · rw [if_neg (fun z => c ((al _).mp z.2)), if_neg c]
