/-! THE ABSTRACT MACHINE'S CONTEXT: what a frame of the machine has beside it -/
def x_A (z : Nat) : Nat → Prop := fun q => z ≤ q
def x_tys (kA : Nat → ClassId) : List (ClassId × FieldType) := [(kA 0, .int), (kA 1, .long), (kA 2, .byte), (kA 3, .boolean)]
def x_fn (f : Nat) : String × String := if f = 0 then ("value", "[B") else ("coder", "B")
/-- the constants lie in the heap as told, outside of what may change -/
def x_Cs (G : xG) (z : Nat) (ac : Nat → Value) (U : State) : Prop :=
  (∀ q ∈ G.1.1, va_Z q.1 q.2.1 q.2.2.1 (x_v z ac q.2.2.2) (x_A z) U U.heap) ∧
  (∀ q ∈ G.1.2.1, ∃ t : Nat, ac q.1 = .ref t ∧ va_T q.2.1 t q.2.2.length (fun j => .int (q.2.2.getD j 0)) (x_A z) U U.heap) ∧
  (∀ q ∈ G.1.2.2.1, ∃ t : Nat, ac q.1 = .ref t ∧ va_OF "java/lang/String" (x_fn q.2.1).1 (x_fn q.2.1).2 (x_v z ac q.2.2) t (x_A z) U U.heap ∧ va_O "java/lang/String" t (x_A z) U U.heap) ∧
  (∀ q ∈ G.1.2.2.2, ∃ t : Nat, ac q.2.2.2 = .ref t ∧ vk_R q.1 q.2.1 q.2.2.1 t U) ∧
  ∀ w ∈ G.2.2.2, va_Nw w U
def x_nst (w : Cond) : Prop := (∃ a i b n d h, w = .fieldLinkNest a i b n d h) ∨ ∃ a i y h, w = .methodLinkNest a i y h
theorem x_Cs.go {G : xG} {z : Nat} {ac : Nat → Value} {s U : State} {locs : List Loc} (h : x_Cs G z ac s) (hn : ∀ w ∈ G.2.2.2, x_nst w) (hW : s.WarmedH U.vm) (hS : va_S (x_A z) s.heap U.heap locs) : x_Cs G z ac U := by
  obtain ⟨h1, h2, h3, h4, h5⟩ := h
  refine ⟨fun q hq => ((h1 q hq).moved hW.alike).kept hS.2.1, fun q hq => ?_, fun q hq => ?_, fun q hq => ?_, fun w hw => ?_⟩
  · obtain ⟨t, e, a⟩ := h2 q hq
    exact ⟨t, e, (a.moved hW.alike).kept hS.2.1⟩
  · obtain ⟨t, e, a, b⟩ := h3 q hq
    exact ⟨t, e, (a.moved hW.alike).kept hS.2.1, (b.moved hW.alike).kept hS.2.1⟩
  · obtain ⟨t, e, a⟩ := h4 q hq
    exact ⟨t, e, a.warm hW⟩
  · rcases hn w hw with ⟨a, i, b, n, d, k, rfl⟩ | ⟨a, i, y, k, rfl⟩
    · exact va_Nw.warmF hW (h5 _ hw)
    · exact va_Nw.warmM hW (h5 _ hw)
theorem x_Cs.call {G : xG} {z : Nat} {ac : Nat → Value} {U : State} {g : JFrame} {mk : MethodId} {a : Array Value} (h : x_Cs G z ac U) (hn : ∀ w ∈ G.2.2.2, x_nst w) : x_Cs G z ac (U.calling g mk a) := by
  obtain ⟨h1, h2, h3, h4, h5⟩ := h
  refine ⟨fun q hq => (h1 q hq).moved (U := U.calling g mk a) (Vm.Alike.refl U.vm), fun q hq => ?_, fun q hq => ?_, fun q hq => ?_, fun w hw => ?_⟩
  · obtain ⟨t, e, b⟩ := h2 q hq
    exact ⟨t, e, b.moved (U := U.calling g mk a) (Vm.Alike.refl U.vm)⟩
  · obtain ⟨t, e, b, d⟩ := h3 q hq
    exact ⟨t, e, b.moved (U := U.calling g mk a) (Vm.Alike.refl U.vm), d.moved (U := U.calling g mk a) (Vm.Alike.refl U.vm)⟩
  · obtain ⟨t, e, b⟩ := h4 q hq
    exact ⟨t, e, b.same (U := U.calling g mk a) rfl⟩
  · rcases hn w hw with ⟨a, i, b, n, d, k, rfl⟩ | ⟨a, i, y, k, rfl⟩
    · exact va_Nw.same rfl rfl (h5 _ hw)
    · exact va_Nw.same rfl rfl (h5 _ hw)
/-- the words of a class -/
def x_clOk (xt : List Cond) (G : xG) (cl : List vw_C) : Prop := ∀ (ci : Nat) (C : String) (T : u_T) (N : Nat), cl[ci]? = some (C, T, N) →
  (∀ w ∈ u_ws C T N, w ∈ xt) ∧ (∀ k, k < N → parseFieldDescriptor (T k).2.2.1 = some (G.2.1 ci k)) ∧ (∀ a, a < N → ∀ b, b < N → a ≠ b → (T a).2.1 ≠ (T b).2.1) ∧
  Cond.instantiable C N ∈ xt ∧ Cond.initialized C ∈ xt ∧ (G.2.2.1 ci).length = N ∧ ∀ j, j < N → defaultValue (G.2.1 ci j) = vp_V ((G.2.2.1 ci)) j ∧ ∀ k, (G.2.2.1 ci)[j]? ≠ some (.ref k) ∧ (G.2.2.1 ci)[j]? ≠ some (.retAddr k)
/-- how long an instruction of fixed length is -/
def x_ln : Instr → Nat
  | .bipush _ | .iload _ | .lload _ | .aload _ | .istore _ | .lstore _ | .astore _ | .newarray _ => 2
  | .sipush _ | .iinc _ _ | .goto _ | .ifCond _ _ | .if_icmp _ _ => 3
  | _ => 1
/-- the abstract instruction at pc is the bytecode's -/
def x_rel (xt : List Cond) (G : xG) (cl : List vw_C) (ms : Nat → Option xM) (y : MethodName) (cc : ByteArray) (pc len : Nat) (i : Instr) : Prop := match i with
  | .jsr n => ∃ idx, ((decode cc pc = .ok (.ldc idx, 2) ∧ len = 2) ∨ (decode cc pc = .ok (.ldc_w idx, 3) ∧ len = 3)) ∧ Cond.constant y.cls idx (Int32.ofInt n) ∈ xt
  | .jsr_w n => ∃ idx, decode cc pc = .ok (.ldc2_w idx, 3) ∧ Cond.constantLong y.cls idx (Int64.ofInt n) ∈ xt
  | .ldc j => ∃ q, G.1.2.2.2[j]? = some q ∧ q.1 = y.cls ∧ ((decode cc pc = .ok (.ldc q.2.1, 2) ∧ len = 2) ∨ (decode cc pc = .ok (.ldc_w q.2.1, 3) ∧ len = 3))
  | .getfield k => ∃ idx C T N, decode cc pc = .ok (.getfield idx, 3) ∧ cl[k / 100]? = some (C, T, N) ∧ k % 100 < N ∧ Cond.fieldLink y.cls idx (T (k % 100)).1 (T (k % 100)).2.1 (T (k % 100)).2.2.1 ∈ xt
  | .putfield k => ∃ idx C T N, decode cc pc = .ok (.putfield idx, 3) ∧ cl[k / 100]? = some (C, T, N) ∧ k % 100 < N ∧ Cond.fieldLink y.cls idx (T (k % 100)).1 (T (k % 100)).2.1 (T (k % 100)).2.2.1 ∈ xt ∧ (T (k % 100)).2.2.2 = false
  | .putstatic k => ∃ idx C T N, decode cc pc = .ok (.putfield idx, 3) ∧ cl[k / 100]? = some (C, T, N) ∧ k % 100 < N ∧ Cond.fieldLink y.cls idx (T (k % 100)).1 (T (k % 100)).2.1 (T (k % 100)).2.2.1 ∈ xt ∧ (T (k % 100)).2.2.2 = true ∧ (T (k % 100)).1 = y.cls ∧ y.name = "<init>"
  | .instanceof f => ∃ idx, decode cc pc = .ok (.getfield idx, 3) ∧ Cond.fieldLink y.cls idx "java/lang/String" (x_fn f).1 (x_fn f).2 ∈ xt
  | .getstatic j => ∃ idx q, decode cc pc = .ok (.getstatic idx, 3) ∧ G.1.1[j]? = some q ∧ (Cond.fieldLink y.cls idx q.1 q.2.1 q.2.2.1 ∈ xt ∨ ∃ host, Cond.fieldLinkNest y.cls idx q.1 q.2.1 q.2.2.1 host ∈ G.2.2.2)
  | .new ci => ∃ idx C T N, decode cc pc = .ok (.new idx, 3) ∧ cl[ci]? = some (C, T, N) ∧ Cond.classLink y.cls idx C ∈ xt
  | .newarray t => decode cc pc = .ok (.newarray t, 2) ∧ Cond.arrayClass (newarray.typeOf t) ∈ xt
  | .athrow => ∃ idx, decode cc pc = .ok (.invokespecial idx, 3) ∧ Cond.methodLink y.cls idx Lib.objectInit ∈ xt ∧ Cond.instanceMethod Lib.objectInit ∈ xt ∧ Cond.code Lib.objectInit ⟨#[0xb1]⟩ 1 none ∈ xt
  | .fadd => ∃ idx, decode cc pc = .ok (.invokestatic idx, 3) ∧ Cond.methodLink y.cls idx Lib.Math.max.name ∈ xt ∧ Cond.static Lib.Math.max.name ∈ xt ∧ Cond.initialized "java/lang/Math" ∈ xt ∧ Cond.code Lib.Math.max.name Lib.Math.max.code 2 (some .int) ∈ xt
  | .fsub => ∃ idx, decode cc pc = .ok (.invokestatic idx, 3) ∧ Cond.methodLink y.cls idx Lib.Math.min.name ∈ xt ∧ Cond.static Lib.Math.min.name ∈ xt ∧ Cond.initialized "java/lang/Math" ∈ xt ∧ Cond.code Lib.Math.min.name Lib.Math.min.code 2 (some .int) ∈ xt
  | .dadd => ∃ idx, decode cc pc = .ok (.invokestatic idx, 3) ∧ Cond.methodLink y.cls idx Lib.MathLoose.max_long.x ∈ xt ∧ Cond.static Lib.MathLoose.max_long.x ∈ xt ∧ Cond.initialized "java/lang/Math" ∈ xt ∧ Cond.code Lib.MathLoose.max_long.x Lib.MathLoose.max_long.code 4 (some .long) ∈ xt
  | .dsub => ∃ idx, decode cc pc = .ok (.invokestatic idx, 3) ∧ Cond.methodLink y.cls idx Lib.MathLoose.min_long.x ∈ xt ∧ Cond.static Lib.MathLoose.min_long.x ∈ xt ∧ Cond.initialized "java/lang/Math" ∈ xt ∧ Cond.code Lib.MathLoose.min_long.x Lib.MathLoose.min_long.code 4 (some .long) ∈ xt
  | .invokestatic j => ∃ idx M, decode cc pc = .ok (.invokestatic idx, 3) ∧ ms j = some M ∧ Cond.methodLink y.cls idx M.1 ∈ xt ∧ Cond.static M.1 ∈ xt ∧ (parseMethodDescriptor M.1.desc).map (fun d => d.parameters.length) = some M.2.2.2.2.1
  | .invokevirtual j => ∃ idx M n, decode cc pc = .ok (.invokevirtual idx, 3) ∧ ms j = some M ∧ Cond.methodLink y.cls idx M.1 ∈ xt ∧ Cond.instanceMethod M.1 ∈ xt ∧ Cond.selects M.1.cls M.1 M.1 ∈ xt ∧ (parseMethodDescriptor M.1.desc).map (fun d => d.parameters.length) = some n ∧ n + 1 = M.2.2.2.2.1 ∧ ((∃ T N, cl[M.2.2.2.2.2]? = some (M.1.cls, T, N) ∧ M.2.2.2.2.2 < 90) ∨ M.2.2.2.2.2 = 90 ∧ cl[90]? = none ∧ M.1.cls = "java/lang/String")
  | .invokespecial j => ∃ idx M n, decode cc pc = .ok (.invokespecial idx, 3) ∧ ms j = some M ∧ Cond.methodLink y.cls idx M.1 ∈ xt ∧ Cond.instanceMethod M.1 ∈ xt ∧ M.1.name = "<init>" ∧ M.2.2.2.1 = none ∧ (parseMethodDescriptor M.1.desc).map (fun d => d.parameters.length) = some n ∧ n + 1 = M.2.2.2.2.1
  | .invokeinterface j _ => ∃ idx M n host, decode cc pc = .ok (.invokespecial idx, 3) ∧ ms j = some M ∧ Cond.methodLinkNest y.cls idx M.1 host ∈ G.2.2.2 ∧ Cond.instanceMethod M.1 ∈ xt ∧ M.1.name = "<init>" ∧ M.2.2.2.1 = none ∧ (parseMethodDescriptor M.1.desc).map (fun d => d.parameters.length) = some n ∧ n + 1 = M.2.2.2.2.1
  | .tableswitch .. => decode cc pc = .ok (i, len)
  | .lookupswitch .. => decode cc pc = .ok (i, len)
  | i => decode cc pc = .ok (i, x_ln i)
