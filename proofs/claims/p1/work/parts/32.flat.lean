/-! FLAT MEMORY: behind the constructors no cell is made, and which cell a reference names is fixed: a world is a memory of numbers -/
abbrev yM : Type := (Nat → Nat → Int32) × (Nat → Nat → Int64)
abbrev yS : Type := (Nat × Nat) ⊕ (Nat × List Value)
/-- a field: .int, .long by the memory; .retAddr r a reference that is null (0) or r; others fixed -/
def y_v (m : yM) (k i : Nat) : Value → Value
  | .int _ => .int (m.1 k i)
  | .long _ => .long (m.2 k i)
  | .retAddr r => if m.1 k i = 0 then .null else .ref r
  | v => v
def y_f (m : yM) (k : Nat) : Nat → List Value → List Value
  | _, [] => []
  | i, v :: l => y_v m k i v :: y_f m k (i + 1) l
def y_c (m : yM) (k : Nat) : yS → xE
  | .inl q => .inl (q.1, q.2, if q.1 = 1 then .inr (.inl (m.2 k)) else .inl (m.1 k))
  | .inr q => .inr (q.1, y_f m k 0 q.2)
def y_wl (m : yM) : Nat → List yS → xW
  | _, [] => []
  | k, s :: l => y_c m k s :: y_wl m (k + 1) l
def y_si (m : yM) (k i : Nat) (v : Int32) : yM := (fun a => if a = k then upd (m.1 k) i v else m.1 a, m.2)
def y_sl (m : yM) (k i : Nat) (v : Int64) : yM := (m.1, fun a => if a = k then vp_updL (m.2 k) i v else m.2 a)
theorem y_f_get (m : yM) (k : Nat) : ∀ (l : List Value) (i j : Nat), (y_f m k i l)[j]? = (l[j]?).map (y_v m k (i + j))
  | [], i, j => by simp [y_f]
  | v :: l, i, 0 => by simp [y_f]
  | v :: l, i, j + 1 => by
    simp only [y_f, List.getElem?_cons_succ]
    rw [y_f_get m k l (i + 1) j, show i + 1 + j = i + (j + 1) by omega]
theorem y_wl_get (m : yM) : ∀ (l : List yS) (k j : Nat), (y_wl m k l)[j]? = (l[j]?).map (y_c m (k + j))
  | [], k, j => by simp [y_wl]
  | s :: l, k, 0 => by simp [y_wl]
  | s :: l, k, j + 1 => by
    simp only [y_wl, List.getElem?_cons_succ]
    rw [y_wl_get m l (k + 1) j, show k + 1 + j = k + (j + 1) by omega]
theorem y_get {m : yM} {l : List yS} {k : Nat} {s : yS} (h : l[k]? = some s) : (y_wl m 0 l)[k]? = some (y_c m k s) := by
  rw [y_wl_get, h, Nat.zero_add]; rfl
theorem y_f_len (m : yM) (k : Nat) : ∀ (l : List Value) (i : Nat), (y_f m k i l).length = l.length
  | [], i => rfl
  | v :: l, i => by simp [y_f, y_f_len m k l (i + 1)]
theorem y_wl_len (m : yM) : ∀ (l : List yS) (k : Nat), (y_wl m k l).length = l.length
  | [], k => rfl
  | s :: l, k => by simp [y_wl, y_wl_len m l (k + 1)]
/-- cells by their own part of the memory alone -/
theorem y_c_congr {m m' : yM} {k : Nat} (h1 : m'.1 k = m.1 k) (h2 : m'.2 k = m.2 k) (s : yS) : y_c m' k s = y_c m k s := by
  have hv : ∀ (i : Nat) (v : Value), y_v m' k i v = y_v m k i v := fun i v => by
    cases v <;> simp [y_v, h1, h2]
  have hf : ∀ (l : List Value) (i : Nat), y_f m' k i l = y_f m k i l := by
    intro l
    induction l with
    | nil => intro i; rfl
    | cons v l ih => intro i; simp only [y_f, hv, ih]
  cases s with
  | inl q => simp only [y_c, h1, h2]
  | inr q => simp only [y_c, hf]
theorem y_set {m m' : yM} {l : List yS} {k : Nat} {s : yS} {x : xE} (hk : l[k]? = some s) (hx : x = y_c m' k s) (ho : ∀ a, a ≠ k → m'.1 a = m.1 a ∧ m'.2 a = m.2 a) : (y_wl m 0 l).set k x = y_wl m' 0 l := by
  have hlt : k < l.length := (List.getElem?_eq_some_iff.mp hk).1
  refine List.ext_getElem? fun j => ?_
  rw [List.getElem?_set, y_wl_get, y_wl_get, y_wl_len, Nat.zero_add]
  by_cases hj : k = j
  · subst hj
    rw [if_pos rfl, if_pos hlt, hk, hx]
    rfl
  · rw [if_neg hj]
    cases hs : l[j]? with
    | none => rfl
    | some t => exact congrArg some (y_c_congr (ho j (fun e => hj e.symm)).1 (ho j (fun e => hj e.symm)).2 t).symm
theorem y_set_i {m : yM} {l : List yS} {k t n i : Nat} {v : Int32} (hk : l[k]? = some (.inl (t, n))) (ht : t ≠ 1) : (y_wl m 0 l).set k (.inl (t, n, .inl (upd (m.1 k) i v))) = y_wl (y_si m k i v) 0 l :=
  y_set hk (by simp [y_c, ht, y_si]) (fun a ha => ⟨by simp [y_si, ha], rfl⟩)
theorem y_set_l {m : yM} {l : List yS} {k n i : Nat} {v : Int64} (hk : l[k]? = some (.inl (1, n))) : (y_wl m 0 l).set k (.inl (1, n, .inr (.inl (vp_updL (m.2 k) i v)))) = y_wl (y_sl m k i v) 0 l :=
  y_set hk (by simp [y_c, y_sl]) (fun a ha => ⟨rfl, by simp [y_sl, ha]⟩)
theorem y_set_f {m m' : yM} {l : List yS} {k ci i : Nat} {ks : List Value} {v0 v : Value} (hk : l[k]? = some (.inr (ci, ks))) (hi : ks[i]? = some v0) (hv : y_v m' k i v0 = v) (ho : ∀ a, a ≠ k → m'.1 a = m.1 a ∧ m'.2 a = m.2 a) (hb : ∀ b, b ≠ i → m'.1 k b = m.1 k b ∧ m'.2 k b = m.2 k b) :
    (y_wl m 0 l).set k (.inr (ci, (y_f m k 0 ks).set i v)) = y_wl m' 0 l := by
  refine y_set hk ?_ ho
  show _ = Sum.inr (ci, y_f m' k 0 ks)
  congr 2
  refine List.ext_getElem? fun j => ?_
  rw [List.getElem?_set, y_f_get, y_f_get, y_f_len, Nat.zero_add]
  have hlt : i < ks.length := (List.getElem?_eq_some_iff.mp hi).1
  by_cases hj : i = j
  · subst hj
    rw [if_pos rfl, if_pos hlt, hi]
    exact congrArg some hv.symm
  · rw [if_neg hj]
    cases hs : ks[j]? with
    | none => rfl
    | some u =>
      have h9 := hb j (fun e => hj e.symm)
      have : y_v m' k j u = y_v m k j u := by cases u <;> simp [y_v, h9.1, h9.2]
      exact congrArg some this.symm
theorem y_set_fi {m : yM} {l : List yS} {k ci i : Nat} {ks : List Value} {x0 v : Int32} (hk : l[k]? = some (.inr (ci, ks))) (hi : ks[i]? = some (.int x0)) : (y_wl m 0 l).set k (.inr (ci, (y_f m k 0 ks).set i (.int v))) = y_wl (y_si m k i v) 0 l :=
  y_set_f hk hi (by simp [y_v, y_si, upd]) (fun a ha => ⟨by simp [y_si, ha], rfl⟩) (fun b hb => ⟨by simp [y_si, upd, hb], rfl⟩)
theorem y_set_fl {m : yM} {l : List yS} {k ci i : Nat} {ks : List Value} {x0 v : Int64} (hk : l[k]? = some (.inr (ci, ks))) (hi : ks[i]? = some (.long x0)) : (y_wl m 0 l).set k (.inr (ci, (y_f m k 0 ks).set i (.long v))) = y_wl (y_sl m k i v) 0 l :=
  y_set_f hk hi (by simp [y_v, y_sl, vp_updL]) (fun a ha => ⟨rfl, by simp [y_sl, ha]⟩) (fun b hb => ⟨rfl, by simp [y_sl, vp_updL, hb]⟩)
theorem y_set_fr {m : yM} {l : List yS} {k ci i r : Nat} {ks : List Value} (hk : l[k]? = some (.inr (ci, ks))) (hi : ks[i]? = some (.retAddr r)) : (y_wl m 0 l).set k (.inr (ci, (y_f m k 0 ks).set i (.ref r))) = y_wl (y_si m k i 1) 0 l :=
  y_set_f hk hi (by simp [y_v, y_si, upd]) (fun a ha => ⟨by simp [y_si, ha], rfl⟩) (fun b hb => ⟨by simp [y_si, upd, hb], rfl⟩)
