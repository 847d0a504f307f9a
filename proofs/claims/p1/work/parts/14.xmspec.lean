/-! A STEP OF THE ABSTRACT MACHINE IS THE MACHINE'S -/
theorem x_st_spec {pc len : Nat} {lv : xL} {w : xW} {ck cs : Nat} {o : Option (List Value)} {q : xR} (h : x_st pc len lv w ck cs o = some q) : ∃ st, o = some st ∧ q = (pc + len, lv, st, w, ck, cs) := by
  cases o with
  | none => cases h
  | some st => cases h; exact ⟨st, rfl, rfl⟩
theorem x_sw_spec {pc len : Nat} {lv : xL} {ck cs : Nat} {o : Option (List Value × xW)} {q : xR} (h : x_sw pc len lv ck cs o = some q) : ∃ st w, o = some (st, w) ∧ q = (pc + len, lv, st, w, ck, cs) := by
  cases o with
  | none => cases h
  | some st => cases h; exact ⟨st.1, st.2, rfl, rfl⟩
theorem x_jp_spec {lv : xL} {st : List Value} {w : xW} {ck cs : Nat} {o : Option Nat} {q : xR} (h : x_jp lv st w ck cs o = some q) : ∃ t, o = some t ∧ q = (t, lv, st, w, ck, cs) := by
  cases o with
  | none => cases h
  | some t => cases h; exact ⟨t, rfl, rfl⟩
theorem x_ii_spec {st st' : List Value} {f : Int32 → Int32 → Option Int32} (h : x_ii st f = some st') : ∃ x y r v, st = .int y :: .int x :: r ∧ f x y = some v ∧ st' = .int v :: r := by
  unfold x_ii at h
  split at h
  · rename_i y x r
    cases hf : f x y with
    | none => rw [hf] at h; cases h
    | some v => rw [hf] at h; cases h; exact ⟨x, y, r, v, rfl, hf, rfl⟩
  · cases h
theorem x_ll_spec {st st' : List Value} {f : Int64 → Int64 → Option Int64} (h : x_ll st f = some st') : ∃ x y r v, st = .long y :: .long x :: r ∧ f x y = some v ∧ st' = .long v :: r := by
  unfold x_ll at h
  split at h
  · rename_i y x r
    cases hf : f x y with
    | none => rw [hf] at h; cases h
    | some v => rw [hf] at h; cases h; exact ⟨x, y, r, v, rfl, hf, rfl⟩
  · cases h
theorem x_i1_spec {st st' : List Value} {f : Int32 → Value} (h : x_i1 st f = some st') : ∃ x r, st = .int x :: r ∧ st' = f x :: r := by
  unfold x_i1 at h
  split at h
  · cases h; exact ⟨_, _, rfl, rfl⟩
  · cases h
theorem x_l1_spec {st st' : List Value} {f : Int64 → Value} (h : x_l1 st f = some st') : ∃ x r, st = .long x :: r ∧ st' = f x :: r := by
  unfold x_l1 at h
  split at h
  · cases h; exact ⟨_, _, rfl, rfl⟩
  · cases h
theorem x_ld_spec {st st' : List Value} {o : Option Value} {ok : Value → Bool} (h : x_ld st o ok = some st') : ∃ v, o = some v ∧ ok v = true ∧ st' = v :: st := by
  unfold x_ld at h
  split at h
  · rename_i v
    by_cases hv : ok v = true
    · rw [if_pos hv] at h; cases h; exact ⟨v, rfl, hv, rfl⟩
    · rw [if_neg hv] at h; cases h
  · cases h
theorem x_isI_spec {v : Value} (h : x_isI v = true) : ∃ x, v = .int x := by
  cases v <;> first | exact ⟨_, rfl⟩ | (exact absurd h (by decide)) | (simp [x_isI] at h)
theorem x_isL_spec {v : Value} (h : x_isL v = true) : ∃ x, v = .long x := by
  cases v <;> first | exact ⟨_, rfl⟩ | (exact absurd h (by decide)) | (simp [x_isL] at h)
theorem x_isR_spec {z : Nat} {ac : Nat → Value} (hac1 : ∀ k, k ≠ 0 → ∃ t : Nat, ac k = .ref t) {v : Value} (h : x_isR v = true) : ∃ t : Nat, x_v z ac v = .ref t := by
  cases v with
  | ref k => exact ⟨_, rfl⟩
  | retAddr k => exact hac1 k (by simpa [x_isR] using h)
  | _ => simp [x_isR] at h
theorem x_sv_spec {pc len i nL : Nat} {ok : Value → Bool} {two : Bool} {lv : xL} {st : List Value} {w : xW} {ck cs : Nat} {q : xR} (h : x_sv pc len i nL ok two lv st w ck cs = some q) : ∃ v r, st = v :: r ∧ ok v = true ∧ (if two then i + 1 else i) < nL ∧ q = (pc + len, if two then x_s2 i v lv else x_s1 i v lv, r, w, ck, cs) := by
  unfold x_sv at h
  split at h
  · rename_i v r
    by_cases hc : ok v = true ∧ (if two then i + 1 else i) < nL
    · rw [if_pos hc] at h; cases h; exact ⟨v, r, rfl, hc.1, hc.2, rfl⟩
    · rw [if_neg hc] at h; cases h
  · cases h
theorem x_ca_mem {k : Nat} {q : FieldType × List Int32} : ∀ {l : List (Nat × FieldType × List Int32)}, x_ca k l = some q → (k, q) ∈ l
  | [], h => by cases h
  | p :: l, h => by
    unfold x_ca at h
    by_cases hp : p.1 = k
    · rw [if_pos hp] at h
      cases h
      subst hp
      exact List.mem_cons_self
    · rw [if_neg hp] at h
      exact List.mem_cons_of_mem _ (x_ca_mem h)
theorem x_cf_mem {k f : Nat} {v : Value} : ∀ {l : List (Nat × Nat × Value)}, x_cf k f l = some v → (k, f, v) ∈ l
  | [], h => by cases h
  | p :: l, h => by
    unfold x_cf at h
    by_cases hp : p.1 = k ∧ p.2.1 = f
    · rw [if_pos hp] at h
      cases h
      obtain ⟨a, b, c⟩ := p
      obtain ⟨rfl, rfl⟩ := hp
      exact List.mem_cons_self
    · rw [if_neg hp] at h
      exact List.mem_cons_of_mem _ (x_cf_mem h)
theorem x_fit_spec {z : Nat} {ac : Nat → Value} {ty : FieldType} {v : Value} (h : x_fit ty v = true) : narrow ty (x_v z ac v) = x_v z ac v ∧ fits ty (x_v z ac v) = true := by
  cases v with
  | int x => simp only [x_fit, Bool.and_eq_true, decide_eq_true_eq] at h; exact h
  | long x => simp only [x_fit, Bool.and_eq_true, decide_eq_true_eq] at h; exact h
  | ref k => cases ty <;> first | exact ⟨rfl, rfl⟩ | (simp [x_fit] at h)
  | _ => simp [x_fit] at h
/-- the method's own part of the context -/
def x_Fx (xt : List Cond) (G : xG) (cl : List vw_C) (D : va_G) (kA : Nat → ClassId) (z : Nat) (ac : Nat → Value) (M : xM) (p : Program) (s : State) (m : MethodId) (args : Array Value) (meth : Method) (c : Code) : Prop :=
  p.tables.exec = Jvm.exec ∧ c.code = M.2.1 ∧ c.maxLocals = M.2.2.1 ∧ s.vm.findClass M.1.cls = some m.cls ∧ (∀ w ∈ xt, w.before args s = true) ∧ meth.sig.returnType = M.2.2.2.1 ∧ meth.locks = false ∧ (M.1.name = "<init>" → meth.name = "<init>") ∧ va_K D cl (x_tys kA) s ∧ x_Cs G z ac s ∧ z ≤ s.heap.size
/-- what is the same for all methods -/
def x_Ok (xt : List Cond) (G : xG) (cl : List vw_C) (ac : Nat → Value) : Prop := x_clOk xt G cl ∧ (∀ k, (ac k).category = 1) ∧ (∀ k, k ≠ 0 → ∃ t : Nat, ac k = .ref t) ∧ ∀ w ∈ G.2.2.2, x_nst w
theorem x_ldcwS {p : Program} {l : Launch} {e : Env} {R : Room} {s : State} {m : MethodId} {args : Array Value} {below : List Frame} {meth : Method} {c : Code} {H : Heap} {locs : List Loc} {cells slots : Nat} {Q : State → Prop} {cc : ByteArray} {pc : Nat} {ls : Array Slot} {rest : List Value} (hexec : p.tables.exec = Jvm.exec) (hb : c.code = cc) {own tx : String} {index q : Nat} (hown : s.vm.findClass own = some m.cls) (hZ : vk_R own index tx q s) (hdg : decode cc pc = .ok (.ldc_w index, 3))
    (k : W p l e R s m args below meth c H locs cells slots Q (F0 m (pc + 3) ls (.ref q :: rest))) : W p l e R s m args below meth c H locs cells slots Q (F0 m pc ls rest) := by
  intro T hT X
  obtain ⟨t, a1, b1⟩ := k T hT X
  refine ⟨t, ?_, b1⟩
  obtain ⟨kc, cf, i, a', hk, hcf, hcp, -, hr, hev'⟩ := Cond.stringRef_spec hown hZ.1
  cases hZ.2.symm.trans hev'
  obtain ⟨k', hk', he⟩ := X.warmed.alike.2.2 _ _ hk
  have hr' : k'.resolved[index]? = some (some (.string q)) := by
    rcases X.warmed.entry hk hk' index with h | ⟨h, -⟩
    · rw [h]; exact hr
    · rw [hr] at h; cases h
  jvm_step X.here [hexec, hb, hdg, ldc_w.wp_string (e := e) (s := T) (f := F0 m pc ls rest) X.here.top hk' (by rw [he]; exact hcf) hcp hr']
  exact a1
