/-- a private method of a class that the tables say can be made, by its rows of tables_1 -/
def lw_okq (q : MethodName × Nat) : Prop := (q.1.cls ≠ "java/lang/invoke/MethodHandle" ∧ q.1.cls ≠ "java/lang/invoke/VarHandle") ∧ Cond.instantiable q.1.cls q.2 ∈ tables_1 ∧ Cond.privateMethod q.1 ∈ tables_1 ∧ Cond.instanceMethod q.1 ∈ tables_1
def lw_privs : List (MethodName × Nat) := []
def lw_tbl : List Cond := k2_sels lw_privs ++ tables_1
theorem lw_privs_ok : ∀ q ∈ lw_privs, lw_okq q := fun _ h => absurd h List.not_mem_nil
-- ===== end of PART A; then your names; then what follows =====
/-! THE CLAIM OUT OF ONE WALK OF THE LAW'S BODY. Your part is whole_start (and what it stands on); all else here is the same for every law, but numbers. -/
def R_law : String := "CodeMakerLaw"
def lw_P (b : Addr) (xs : List Int32) (args : Array Value) (s : State) : Prop := args = #[.ref b] ∧ s.IntsAt b xs ∧ xs.length ≤ 6 ∧ (Jvm.Cond.and given_1 narrow_1).before args s = true
def lw_Q (_ : Array Value) (s : State) (o : Outcome) (t : State) : Prop := o = .returned (some (.int 1)) ∧ Framed s o t [] 600000 7302250
def lw_Z (below : List Frame) (a : Array Value) (s : State) : State → Prop := fun t => ∃ o, t.status = .running ∧ Ended t below o ∧ lw_Q a s o t
/-- the law's own end, with 1 on the stack, nothing written that was there before, its room as the claim has it -/
theorem lw_ret {p : Program} {l : Launch} {e : Env} {s : State} {m : MethodId} {below : List Frame} {meth : Method} {c : Code} {b : Nat} (hx : p.tables.exec = Jvm.exec) (hb : c.code = code) (hr : meth.sig.returnType = ret) (hlocks : meth.locks = false) {pc : Nat} {H : Heap} {ls : Array Slot} (hdg : decode code pc = .ok (.ireturn, 1)) : W p l e room_1 s m #[Value.ref b] below meth c H [] 600000 7302250 (lw_Z below #[Value.ref b] s) (F0 m pc ls [.int 1]) := by
  intro T hT X
  obtain ⟨fs, hret, hrun, hended, hW, hframe⟩ := X.leave (v := some (.int 1)) (hlocks := hlocks) (fun h => by rw [hr] at h; cases h)
  have hmeth' : T.vm.method? m = some meth := X.method'
  refine ⟨T.setFrames fs, ?_, .returned (some (.int 1)), hrun, hended, rfl, ⟨_, rfl⟩, hW, hframe⟩
  jvm_step X.here [X.here.top, hx, hb, hdg, hmeth', hr, ret, narrow_b1]
  (try refine ⟨rfl, ?_⟩); (try refine ⟨rfl, ?_⟩)
  first | (intro acts; rw [hret _ acts rfl rfl rfl]) | rw [hret _ _ rfl rfl rfl]
  exact Steps.refl _
/-- what holds at the law's entry: the machine, the code, the tables' words (any of lw_tbl by 'hts w (by decide +kernel)'), the script of L ints xs at the cell b, what the Statement gives of the start (any of its parts by flat_of_before) -/
def lw_At (p : Program) (s : State) (m : MethodId) (meth : Method) (c : Code) (b L : Nat) (xs : Nat → Int32) : Prop :=
  p.tables.exec = Jvm.exec ∧ c.code = code ∧ meth.sig.returnType = ret ∧ c.maxLocals = 4 ∧ s.vm.findClass R_law = some m.cls ∧ (∀ w ∈ lw_tbl, w.before #[Value.ref b] s = true) ∧ va_X b L xs s s.heap ∧ b < s.heap.size ∧ meth.locks = false ∧ (Jvm.Cond.and given_1 narrow_1).before #[Value.ref b] s = true
-- ===== YOUR PART BEGINS =====
/-! THE LAW'S START OUT OF A PURE RUN OF THE ABSTRACT MACHINE -/
theorem x_W_mono {p : Program} {l : Launch} {e : Env} {R : Room} {s : State} {m : MethodId} {args : Array Value} {below : List Frame} {meth : Method} {c : Code} {H : Heap} {locs : List Loc} {cells slots : Nat} {Q Q' : State → Prop} {g : JFrame} (h : ∀ t, Q t → Q' t) (k : W p l e R s m args below meth c H locs cells slots Q g) : W p l e R s m args below meth c H locs cells slots Q' g := fun T hT X => by
  obtain ⟨t, a, b⟩ := k T hT X
  exact ⟨t, a, h t b⟩
theorem x_K0 {args : Array Value} {s : State} (hts : ∀ w ∈ xt, w.before args s = true) : ∃ (D : va_G) (kA : Nat → ClassId), va_K D xcls (x_tys kA) s := by
  have h0 : ∀ ci : Nat, ∃ q : ClassId × (Nat → Nat), ∀ r : vw_C, xcls[ci]? = some r → u_Kn s r.1 r.2.1 r.2.2 q.1 q.2 := by
    intro ci
    cases hc : xcls[ci]? with
    | none => exact ⟨(0, fun _ => 0), fun r hr => by cases hr⟩
    | some r =>
      obtain ⟨C, T, N⟩ := r
      obtain ⟨c1, -, -, c4, -⟩ := x_cls_ok (G := xg []) rfl rfl ci C T N hc
      obtain ⟨cC, iS, hk⟩ := u_known hts c1 (hts _ c4)
      exact ⟨(cC, iS), fun r hr => by cases hr; exact hk⟩
  obtain ⟨ad, had⟩ := Classical.axiomOfChoice h0
  have h1 : ∀ t : Nat, ∃ cA : ClassId, ∀ ty : FieldType, (match t with | 0 => some .int | 1 => some .long | 2 => some .byte | 3 => some FieldType.boolean | _ => none) = some ty → ArrOfT s cA ty ∧ va_RA s cA ty := by
    have key : ∀ ty : FieldType, (∀ C, ty ≠ .object C) → ty ∈ xARt → ∃ cA : ClassId, ArrOfT s cA ty ∧ va_RA s cA ty := by
      intro ty hno hm
      obtain ⟨cA, k, comp, q1, q2, q3⟩ := Cond.arrayClass_spec (hts _ (xt_AR hm))
      refine ⟨cA, fun n z => ⟨fun k h => (by cases h), k, q2, comp, q3⟩, ?_⟩
      cases ty with
      | object C => exact absurd rfl (hno C)
      | _ => exact q1
    intro t
    match t with
    | 0 => obtain ⟨cA, h⟩ := key .int (fun C e => by cases e) (by decide); exact ⟨cA, fun ty e => by cases e; exact h⟩
    | 1 => obtain ⟨cA, h⟩ := key .long (fun C e => by cases e) (by decide); exact ⟨cA, fun ty e => by cases e; exact h⟩
    | 2 => obtain ⟨cA, h⟩ := key .byte (fun C e => by cases e) (by decide); exact ⟨cA, fun ty e => by cases e; exact h⟩
    | 3 => obtain ⟨cA, h⟩ := key .boolean (fun C e => by cases e) (by decide); exact ⟨cA, fun ty e => by cases e; exact h⟩
    | n + 4 => exact ⟨0, fun ty e => by cases e⟩
  obtain ⟨kA, hkA⟩ := Classical.axiomOfChoice h1
  refine ⟨(fun c => (ad c).1, fun c => (ad c).2), kA, fun c q hq => had c q hq, fun k q hq => ?_⟩
  match k, hq with
  | 0, hq => cases hq; exact hkA 0 _ rfl
  | 1, hq => cases hq; exact hkA 1 _ rfl
  | 2, hq => cases hq; exact hkA 2 _ rfl
  | 3, hq => cases hq; exact hkA 3 _ rfl
  | n + 4, hq => cases hq
/-- the law answers 1 on a script, as the abstract machine runs it, within the claim's room -/
def x_Run1 (xs : List Int32) : Prop := ∃ (n d : Nat) (w : xW) (mc mz : Nat), x_exec (xg xs) xms xcd n d 0 0 [(0, .retAddr 1)] [] [] 0 0 = some (some (.int 1), w, mc, mz) ∧ d ≤ 1750 ∧ mc ≤ 600000 ∧ mz ≤ 7302250
set_option maxHeartbeats 4000000 in
theorem x_law {p : Program} {e : Env} {s : State} {m : MethodId} {below : List Frame} {meth : Method} {c : Code} (l : Launch) {b L : Nat} {xs : Nat → Int32} (hR : x_Run1 ((List.range L).map xs)) (C0 : lw_At p s m meth c b L xs) : W p l e room_1 s m #[Value.ref b] below meth c s.heap [] 0 0 (lw_Z below #[Value.ref b] s) (entryFrame m ([Value.ref b] : List Value).toArray 4) := by
  obtain ⟨hx, hb, hr, hml, hown, hts, hX, hbl, hlocks, hgv⟩ := C0
  have htb : ∀ w ∈ tables_1, w.before #[Value.ref b] s = true := fun w hw => hts w (List.mem_append_right _ hw)
  have hxt := xt_hts htb
  have hpre : ∀ w ∈ xpre, w.before #[Value.ref b] s = true := flat_of_before _ hgv
  obtain ⟨ac, hac, hac1, hb1, hCs⟩ := x_Cs0 htb hpre hX hbl
  obtain ⟨D, kA, hK⟩ := x_K0 hxt
  obtain ⟨n, d, w, mc, mz, hrun, hd, hmc, hmz⟩ := hR
  have hO : x_Ok xt (xg ((List.range L).map xs)) xcls ac := ⟨x_cls_ok rfl rfl, hac, hac1, xnst_ok⟩
  have hS := (x_sound (l := l) (D := D) (kA := kA) (z := s.heap.size) hO (x_MOk_xt _) x_gd_xt n d 0 0 [(0, .retAddr 1)] [] [] 0 0 _ _ _ _ hrun (xm 0) rfl).2.2
  have hl := lv_entry ([.ref b]) (n := 4) (Nat.le_of_ble_eq_true rfl)
  rw [lg_entry_eq]
  generalize (lg_sl ([.ref b]) ++ List.replicate (4 - (lg_sl ([.ref b])).length) Slot.unset).toArray = ls at hl ⊢
  have hl : lv_has ls 4 (x_lm s.heap.size ac [(0, .retAddr 1)]) := by
    show lv_has ls 4 [(0, ac 1)]
    rw [hb1]
    exact hl
  have hW := hS p e room_1 s m #[Value.ref b] below meth c ⟨hx, hb, hml, hown, hxt, hr, hlocks, fun h => absurd h (by decide), hK, hCs, Nat.le_refl _⟩ (by show d ≤ 2048; omega) (by show d * 48 ≤ 84000; omega) hmc hmz s.heap [] ls hl (fun k q h => by simp [x_w] at h) rfl va_S.rf
  refine x_W_mono ?_ hW
  rintro t ⟨o, h1, h2, ⟨h3, -⟩, L', ⟨h5, h6, h7⟩, h8⟩
  exact ⟨o, h1, h2, h3, h5, h6, h7.weaken (fun y hy hlt => absurd hlt (Nat.not_lt.mpr (h8 y hy))) hmc hmz⟩
