/-! THE ABSTRACT MACHINE IS SOUND: what x_exec answers, the machine does -/
def x_Qc (cl : List vw_C) (D : va_G) (kA : Nat → ClassId) (z : Nat) (ac : Nat → Value) (r : Option Value) (w : xW) : Array Value → State → Outcome → State → Prop := fun _ st oc t =>
  oc = .returned (r.map (x_v z ac)) ∧ va_P D cl (x_w z ac kA 0 w) t.heap ∧ t.heap.size = z + w.length ∧ va_F (x_A z) st t
def x_Pc (G : xG) (cl : List vw_C) (D : va_G) (kA : Nat → ClassId) (z : Nat) (ac : Nat → Value) (as : List Value) (w : xW) : Array Value → State → Prop :=
  va_Pc (as.map (x_v z ac)) (fun U => va_P D cl (x_w z ac kA 0 w) U.heap ∧ U.heap.size = z + w.length ∧ va_K D cl (x_tys kA) U ∧ x_Cs G z ac U)
def x_rm (d mc mz : Nat) : Room := { frames := d, cells := mc, slots := mz, locals := d * 48 }
/-- every method's words, and that its abstract code is its bytecode -/
def x_MOk (xt : List Cond) (G : xG) (cl : List vw_C) (ms : Nat → Option xM) (cd : Nat → Nat → Option (Instr × Nat)) : Prop := ∀ (y : Nat) (M : xM), ms y = some M →
  (M.2.2.2.2.2 = 99 ∨ plainName M.1.cls = true ∧ Cond.code M.1 M.2.1 M.2.2.1 M.2.2.2.1 ∈ xt ∧ Cond.initialized M.1.cls ∈ xt ∧ (M.1.cls ≠ "java/lang/invoke/MethodHandle" ∧ M.1.cls ≠ "java/lang/invoke/VarHandle") ∧ M.2.2.1 ≤ 29) ∧ ∀ pc i len, cd y pc = some (i, len) → x_rel xt G cl ms M.1 M.2.1 pc len i
def x_gd (xt : List Cond) : Prop := ∀ w ∈ xt, (w.onTables && w.keeps) = true ∨ ∃ ty, w = .arrayClass ty
theorem x_blind {G : xG} {cl : List vw_C} {D : va_G} {kA : Nat → ClassId} {z : Nat} {ac : Nat → Value} (hn : ∀ w ∈ G.2.2.2, x_nst w) (as : List Value) (w : xW) : FrameBlind (x_Pc G cl D kA z ac as w) := fun a U g mk h =>
  ⟨h.1, h.2.1, h.2.2.1, va_K.moved (u := U) (U := U.calling g mk a) (Vm.Alike.refl U.vm) h.2.2.2.1, x_Cs.call h.2.2.2.2 hn⟩
theorem x_after {p : Program} {l : Launch} {e : Env} {R : Room} {s : State} {m : MethodId} {args : Array Value} {below : List Frame} {meth : Method} {c : Code} {Q : State → Prop} {cl : List vw_C} {D : va_G} {kA : Nat → ClassId} {z : Nat} {ac : Nat → Value}
    {H : Heap} {locs : List Loc} {ck cs mc mz pc : Nat} {ls : Array Slot} {st0 rest : List Value} {v : Option Value} {w' : xW} {a : Array Value}
    (hr : va_Run p l e R s m args below meth c H locs ck cs mc mz (F0 m pc ls st0) rest (x_Qc cl D kA z ac v w' a) (x_A z)) (hS : va_S (x_A z) s.heap H locs)
    (kk : ∀ (H1 : Heap) (locs1 : List Loc), va_P D cl (x_w z ac kA 0 w') H1 → H1.size = z + w'.length → va_S (x_A z) s.heap H1 locs1 → W p l e R s m args below meth c H1 locs1 (ck + mc) (cs + mz) Q (F0 m (pc + 3) ls ((v.map (x_v z ac)).toList ++ rest))) :
    W p l e R s m args below meth c H locs ck cs Q (F0 m pc ls st0) := by
  intro T hT X
  obtain ⟨v', st₀, t, T', L, h0, X', hL, e1, e2, ⟨hv, hP, hz, hF1, hF2⟩, st⟩ := hr T hT X
  cases hv
  rw [h0] at hF1 hF2
  obtain ⟨t2, a1, b1⟩ := kk T'.heap (locs ++ L) (by rw [e1]; exact hP) (by rw [e1]; exact hz)
    ⟨Nat.le_trans hS.1 (by rw [e1]; exact hF1), fun q h1 h2 => by rw [e1, hF2 q (Nat.lt_of_lt_of_le h1 hS.1) h2]; exact hS.2.1 q h1 h2, fun q hq => by
      rcases List.mem_append.mp hq with h | h
      · exact hS.2.2 q h
      · exact hL q h⟩ T' rfl X'
  exact ⟨t2, st t2 a1, b1⟩
/-- the claim of soundness at a fuel -/
def x_Snd (l : Launch) (xt : List Cond) (G : xG) (cl : List vw_C) (ms : Nat → Option xM) (cd : Nat → Nat → Option (Instr × Nat)) (D : va_G) (kA : Nat → ClassId) (z : Nat) (ac : Nat → Value) (n : Nat) : Prop :=
  ∀ (d y pc : Nat) (lv : xL) (st : List Value) (w : xW) (ck cs : Nat) (r : Option Value) (w' : xW) (mc mz : Nat), x_exec G ms cd n d y pc lv st w ck cs = some (r, w', mc, mz) → ∀ M : xM, ms y = some M →
  ck ≤ mc ∧ cs ≤ mz ∧ ∀ (p : Program) (e : Env) (R : Room) (s : State) (m : MethodId) (args : Array Value) (below : List Frame) (meth : Method) (c : Code), x_Fx xt G cl D kA z ac M p s m args meth c →
    d ≤ R.frames → d * 48 ≤ R.locals → mc ≤ R.cells → mz ≤ R.slots → ∀ (H : Heap) (locs : List Loc) (ls : Array Slot), lv_has ls M.2.2.1 (x_lm z ac lv) → va_P D cl (x_w z ac kA 0 w) H → H.size = z + w.length → va_S (x_A z) s.heap H locs →
    W p l e R s m args below meth c H locs ck cs (MQ below (x_Qc cl D kA z ac r w') args s mc mz (x_A z)) (F0 m pc ls (st.map (x_v z ac)))
theorem x_met {l : Launch} {xt : List Cond} {G : xG} {cl : List vw_C} {ms : Nat → Option xM} {cd : Nat → Nat → Option (Instr × Nat)} {D : va_G} {kA : Nat → ClassId} {z : Nat} {ac : Nat → Value} (hO : x_Ok xt G cl ac) (hM : x_MOk xt G cl ms cd) {n : Nat} (hn : x_Snd l xt G cl ms cd D kA z ac n)
    {d j : Nat} {as : List Value} {w w' : xW} {r : Option Value} {mc mz : Nat} (h : x_exec G ms cd n d j 0 (lv_args 0 as) [] w 0 0 = some (r, w', mc, mz)) {M : xM} (hj : ms j = some M) (hcat : x_cat as ≤ M.2.2.1) (hne : M.2.2.2.2.2 ≠ 99) :
    Met l M.1 (Cond.code M.1 M.2.1 M.2.2.1 M.2.2.2.1 :: xt) (x_rm d mc mz) (x_Pc G cl D kA z ac as w) (x_Qc cl D kA z ac r w') mc mz (x_A z) := by
  refine Met.ofW (cc := M.2.1) (maxL := M.2.2.1) (ret := M.2.2.2.1) ((hM j M hj).1.resolve_left hne).1 rfl ?_
  intro p e s m args below meth c s₁ B hml hv
  obtain ⟨rfl, hP, hsz, hK, hCs⟩ := hv
  have hts := atoms_spec (ws := Cond.code M.1 M.2.1 M.2.2.1 M.2.2.2.1 :: xt) B.pre
  have hown : s.vm.findClass M.1.cls = some m.cls := findClass_of_methodNamed B.named
  have hnm : meth.name = M.1.name := (name_of_methodNamed B.named B.method).1
  have hl := lv_entry (as.map (x_v z ac)) (n := M.2.2.1) (Nat.le_trans (x_sl_len _) (by rw [show x_cat (as.map (x_v z ac)) = x_cat as from x_cat_map hO.2.1 as]; exact hcat))
  rw [x_args_lm hO.2.1] at hl
  rw [lg_entry_eq]
  refine (hn d j 0 (lv_args 0 as) [] w 0 0 r w' mc mz h M hj).2.2 p e _ s m _ below meth c ⟨B.exec, B.bytes, hml, hown, fun q hq => hts q (List.mem_cons_of_mem _ hq), B.returns, B.notSynchronized, fun e1 => hnm.trans e1, hK, hCs, by rw [hsz]; exact Nat.le_add_right _ _⟩ ?_ ?_ ?_ ?_ s.heap [] _ hl hP hsz va_S.rf
  · exact Nat.le_refl _
  · exact Nat.le_refl _
  · exact Nat.le_refl _
  · exact Nat.le_refl _
theorem x_take_spec {n : Nat} {st as r : List Value} (h : x_take n st = some (as, r)) : st = as.reverse ++ r ∧ as.length = n := by
  unfold x_take at h
  by_cases hn : n ≤ st.length
  · rw [if_pos hn] at h
    cases h
    exact ⟨by rw [List.reverse_reverse, List.take_append_drop], by rw [List.length_reverse, List.length_take]; omega⟩
  · rw [if_neg hn] at h; cases h
