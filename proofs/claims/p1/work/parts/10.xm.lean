/-! THE ABSTRACT MACHINE: a pure, computable reading of the claim's bytecode over a world of cells by number; its soundness over the kit's judgements follows in the next part -/
abbrev xE : Type := (Nat × vp_A) ⊕ (Nat × List Value)
abbrev xW : Type := List xE
abbrev xL : Type := List (Nat × Value)
/-- name, bytes, locals, what it returns, operands (the receiver too), number of its class (90: String, 91: none) -/
abbrev xM : Type := MethodName × ByteArray × Nat × Option FieldType × Nat × Nat
/-- constants: statics (class, name, descriptor, what it holds), arrays (place, type, contents), fields of constant Strings (place, 0 value or 1 coder, what it holds), texts (class, entry, text, place) -/
abbrev xC : Type := List (String × String × String × Value) × List (Nat × FieldType × List Int32) × List (Nat × Nat × Value) × List (String × Nat × String × Nat)
/-- constants, a class's field types, a class's blank fields, the words of nest mates -/
abbrev xG : Type := xC × (Nat → Nat → FieldType) × (Nat → List Value) × List Cond
abbrev xR : Type := Nat × xL × List Value × xW × Nat × Nat
/-- an abstract value's concrete one: .ref k is the k-th cell that was made, .retAddr k the constant of that number (0: the one static of which nothing is known) -/
def x_v (z : Nat) (ac : Nat → Value) : Value → Value
  | .ref k => .ref (z + k)
  | .retAddr k => ac k
  | v => v
def x_e (z : Nat) (ac : Nat → Value) (kA : Nat → ClassId) : xE → va_E
  | .inl a => .inl (kA a.1, a.2)
  | .inr o => .inr (o.1, o.2.map (x_v z ac))
def x_w (z : Nat) (ac : Nat → Value) (kA : Nat → ClassId) : Nat → xW → va_W
  | _, [] => []
  | k, x :: w => (z + k, x_e z ac kA x) :: x_w z ac kA (k + 1) w
def x_lm (z : Nat) (ac : Nat → Value) (lv : xL) : xL := lv.map fun q => (q.1, x_v z ac q.2)
def x_lk (i : Nat) : xL → Option Value
  | [] => none
  | q :: l => if q.1 = i then some q.2 else x_lk i l
def x_s1 (i : Nat) (v : Value) (lv : xL) : xL := (i, v) :: lv.filter (fun q => !(q.1 == i) && !(q.1 + 1 == i && q.2.category == 2))
def x_s2 (i : Nat) (v : Value) (lv : xL) : xL := (i, v) :: lv.filter (fun q => !(q.1 == i) && (!(q.1 == i + 1) && !(q.1 + 1 == i && q.2.category == 2)))
def x_to (pc : Nat) (off : Int) : Option Nat := match (pc : Int) + off with
  | .ofNat t => some t
  | .negSucc _ => none
/-- a jump, or on -/
def x_if (pc : Nat) (off : Int) (b : Bool) : Option Nat := (x_to pc off).map fun t => if b then t else pc + 3
def x_c0 (c : ClassFile.Cond) (x : Int32) : Bool := match c with
  | .eq => decide (x = 0)
  | .ne => decide (¬ x = 0)
  | .lt => decide (x < 0)
  | .ge => decide (0 ≤ x)
  | .gt => decide (0 < x)
  | .le => decide (x ≤ 0)
def x_c2 (c : ClassFile.Cond) (x y : Int32) : Bool := match c with
  | .eq => decide (x = y)
  | .ne => decide (¬ x = y)
  | .lt => decide (x < y)
  | .ge => decide (y ≤ x)
  | .gt => decide (y < x)
  | .le => decide (x ≤ y)
/-- int, int to int -/
def x_ii (st : List Value) (f : Int32 → Int32 → Option Int32) : Option (List Value) := match st with
  | .int y :: .int x :: r => (f x y).map fun z => .int z :: r
  | _ => none
def x_ll (st : List Value) (f : Int64 → Int64 → Option Int64) : Option (List Value) := match st with
  | .long y :: .long x :: r => (f x y).map fun z => .long z :: r
  | _ => none
/-- int to a value -/
def x_i1 (st : List Value) (f : Int32 → Value) : Option (List Value) := match st with
  | .int x :: r => some (f x :: r)
  | _ => none
def x_l1 (st : List Value) (f : Int64 → Value) : Option (List Value) := match st with
  | .long x :: r => some (f x :: r)
  | _ => none
def x_ld (st : List Value) (o : Option Value) (ok : Value → Bool) : Option (List Value) := match o with
  | some v => if ok v then some (v :: st) else none
  | none => none
def x_isI : Value → Bool
  | .int _ => true
  | _ => false
def x_isL : Value → Bool
  | .long _ => true
  | _ => false
def x_isR : Value → Bool
  | .ref _ => true
  | .retAddr k => decide (k ≠ 0)
  | _ => false
/-- within an array of n -/
def x_in (i : Int32) (n : Nat) : Bool := !(decide (i < 0) || decide (n ≤ i.toNatClampNeg))
def x_ca (k : Nat) : List (Nat × FieldType × List Int32) → Option (FieldType × List Int32)
  | [] => none
  | q :: l => if q.1 = k then some q.2 else x_ca k l
/-- an int, byte or boolean array's element -/
def x_ai (G : xG) (t1 t2 : Nat) (ty : FieldType) (w : xW) (st : List Value) : Option (List Value) := match st with
  | .int i :: .ref k :: r => match w[k]? with
    | some (.inl (t, n, .inl f)) => if (t = t1 ∨ t = t2) ∧ x_in i n = true then some (.int (f i.toNatClampNeg) :: r) else none
    | _ => none
  | .int i :: .retAddr k :: r => match x_ca k G.1.2.1 with
    | some (ty', l) => if ty' = ty ∧ x_in i l.length = true then some (.int (l.getD i.toNatClampNeg 0) :: r) else none
    | none => none
  | _ => none
def x_al (w : xW) (st : List Value) : Option (List Value) := match st with
  | .int i :: .ref k :: r => match w[k]? with
    | some (.inl (1, n, .inr (.inl f))) => if x_in i n = true then some (.long (f i.toNatClampNeg) :: r) else none
    | _ => none
  | _ => none
def x_an (G : xG) (w : xW) (st : List Value) : Option (List Value) := match st with
  | .ref k :: r => match w[k]? with
    | some (.inl (t, a)) => if t < 4 then some (.int (Int32.ofNat a.1) :: r) else none
    | _ => none
  | .retAddr k :: r => match x_ca k G.1.2.1 with
    | some (_, l) => some (.int (Int32.ofNat l.length) :: r)
    | none => none
  | _ => none
/-- a store into an int array (t = 0), a byte array (2), a boolean array (3) -/
def x_si (b : Bool) (w : xW) (st : List Value) : Option (List Value × xW) := match st with
  | .int x :: .int i :: .ref k :: r => match w[k]? with
    | some (.inl (0, n, .inl f)) => if b = false ∧ x_in i n = true then some (r, w.set k (.inl (0, n, .inl (upd f i.toNatClampNeg x)))) else none
    | some (.inl (2, n, .inl f)) => if b = true ∧ x_in i n = true then some (r, w.set k (.inl (2, n, .inl (upd f i.toNatClampNeg (vp_nar .byte x))))) else none
    | some (.inl (3, n, .inl f)) => if b = true ∧ x_in i n = true then some (r, w.set k (.inl (3, n, .inl (upd f i.toNatClampNeg (vp_nar .boolean x))))) else none
    | _ => none
  | _ => none
def x_sl (w : xW) (st : List Value) : Option (List Value × xW) := match st with
  | .long x :: .int i :: .ref k :: r => match w[k]? with
    | some (.inl (1, n, .inr (.inl f))) => if x_in i n = true then some (r, w.set k (.inl (1, n, .inr (.inl (vp_updL f i.toNatClampNeg x))))) else none
    | _ => none
  | _ => none
/-- what a field of a type may get -/
def x_fit (ty : FieldType) : Value → Bool
  | .int x => decide (narrow ty (.int x) = .int x) && fits ty (.int x)
  | .long x => decide (narrow ty (.long x) = .long x) && fits ty (.long x)
  | .ref _ => match ty with
    | .object _ => true
    | .array _ => true
    | _ => false
  | _ => false
/-- field k: of class k / 100 the place k % 100 -/
def x_gf (w : xW) (k : Nat) (st : List Value) : Option (List Value) := match st with
  | .ref a :: r => match w[a]? with
    | some (.inr (ci, fs)) => if ci = k / 100 then (match fs[k % 100]? with
      | some v => some (v :: r)
      | none => none) else none
    | _ => none
  | _ => none
def x_pf (G : xG) (w : xW) (k : Nat) (st : List Value) : Option (List Value × xW) := match st with
  | v :: .ref a :: r => match w[a]? with
    | some (.inr (ci, fs)) => if ci = k / 100 ∧ k % 100 < fs.length ∧ x_fit (G.2.1 ci (k % 100)) v = true then some (r, w.set a (.inr (ci, fs.set (k % 100) v))) else none
    | _ => none
  | _ => none
/-- field f of a constant object -/
def x_cf (k f : Nat) : List (Nat × Nat × Value) → Option Value
  | [] => none
  | q :: l => if q.1 = k ∧ q.2.1 = f then some q.2.2 else x_cf k f l
def x_cg (G : xG) (f : Nat) (st : List Value) : Option (List Value) := match st with
  | .retAddr a :: r => match x_cf a f G.1.2.2.1 with
    | some v => some (v :: r)
    | none => none
  | _ => none
def x_at (t : ArrayType) : Option (Nat × Nat) := match t with
  | .int => some (0, 4)
  | .long => some (1, 8)
  | .byte => some (2, 1)
  | .boolean => some (3, 1)
  | _ => none
def x_a0 (t : Nat) (n : Nat) : vp_A := if t = 1 then (n, .inr (.inl fun _ => 0)) else (n, .inl fun _ => 0)
/-- only the stack changes -/
def x_st (pc len : Nat) (lv : xL) (w : xW) (ck cs : Nat) (o : Option (List Value)) : Option xR := o.map fun st => (pc + len, lv, st, w, ck, cs)
def x_sw (pc len : Nat) (lv : xL) (ck cs : Nat) (o : Option (List Value × xW)) : Option xR := o.map fun q => (pc + len, lv, q.1, q.2, ck, cs)
/-- a local gets what lies on the stack -/
def x_sv (pc len i nL : Nat) (ok : Value → Bool) (two : Bool) (lv : xL) (st : List Value) (w : xW) (ck cs : Nat) : Option xR := match st with
  | v :: r => if ok v = true ∧ (if two then i + 1 else i) < nL then some (pc + len, if two then x_s2 i v lv else x_s1 i v lv, r, w, ck, cs) else none
  | _ => none
def x_jp (lv : xL) (st : List Value) (w : xW) (ck cs : Nat) (o : Option Nat) : Option xR := o.map fun t => (t, lv, st, w, ck, cs)
/-- an instruction that is no call and no return; pool operands are resolved: .jsr an int constant, .jsr_w a long one, .ldc the text of that number, .getstatic the static of that number, .getfield and .putfield k (class k / 100, place k % 100), .putstatic k the same into a final field, .instanceof f a constant String's field, .new the class of that number -/
def x_step (G : xG) (nL len pc : Nat) (i : Instr) (lv : xL) (st : List Value) (w : xW) (ck cs : Nat) : Option xR := match i with
  | .iconst n => x_st pc 1 lv w ck cs (some (.int (Int32.ofInt n) :: st))
  | .bipush n => x_st pc 2 lv w ck cs (some (.int (Int8.ofInt n).toInt32 :: st))
  | .sipush n => x_st pc 3 lv w ck cs (some (.int (Int16.ofInt n).toInt32 :: st))
  | .lconst n => x_st pc 1 lv w ck cs (some (.long (Int64.ofNat (n : Nat)) :: st))
  | .jsr n => x_st pc len lv w ck cs (some (.int (Int32.ofInt n) :: st))
  | .jsr_w n => x_st pc 3 lv w ck cs (some (.long (Int64.ofInt n) :: st))
  | .ldc j => x_st pc len lv w ck cs (match G.1.2.2.2[j]? with
    | some q => some (.retAddr q.2.2.2 :: st)
    | none => none)
  | .iload k => x_st pc 2 lv w ck cs (x_ld st (x_lk k lv) x_isI)
  | .iload_n k => x_st pc 1 lv w ck cs (x_ld st (x_lk k lv) x_isI)
  | .lload k => x_st pc 2 lv w ck cs (x_ld st (x_lk k lv) x_isL)
  | .lload_n k => x_st pc 1 lv w ck cs (x_ld st (x_lk k lv) x_isL)
  | .aload k => x_st pc 2 lv w ck cs (x_ld st (x_lk k lv) x_isR)
  | .aload_n k => x_st pc 1 lv w ck cs (x_ld st (x_lk k lv) x_isR)
  | .istore k => x_sv pc 2 k nL x_isI false lv st w ck cs
  | .istore_n k => x_sv pc 1 k nL x_isI false lv st w ck cs
  | .lstore k => x_sv pc 2 k nL x_isL true lv st w ck cs
  | .lstore_n k => x_sv pc 1 k nL x_isL true lv st w ck cs
  | .astore k => x_sv pc 2 k nL x_isR false lv st w ck cs
  | .astore_n k => x_sv pc 1 k nL x_isR false lv st w ck cs
  | .iinc k n => match x_lk k lv with
    | some (.int x) => if k < nL then some (pc + 3, x_s1 k (.int (x + Int32.ofInt n)) lv, st, w, ck, cs) else none
    | _ => none
  | .iadd => x_st pc 1 lv w ck cs (x_ii st fun x y => some (x + y))
  | .isub => x_st pc 1 lv w ck cs (x_ii st fun x y => some (x - y))
  | .imul => x_st pc 1 lv w ck cs (x_ii st fun x y => some (x * y))
  | .iand => x_st pc 1 lv w ck cs (x_ii st fun x y => some (x &&& y))
  | .ior => x_st pc 1 lv w ck cs (x_ii st fun x y => some (x ||| y))
  | .ixor => x_st pc 1 lv w ck cs (x_ii st fun x y => some (x ^^^ y))
  | .idiv => x_st pc 1 lv w ck cs (x_ii st fun x y => if y = 0 then none else some (x / y))
  | .irem => x_st pc 1 lv w ck cs (x_ii st fun x y => if y = 0 then none else some (x - x / y * y))
  | .ishl => x_st pc 1 lv w ck cs (x_ii st fun x y => some (x <<< (y &&& 31)))
  | .ishr => x_st pc 1 lv w ck cs (x_ii st fun x y => some (x >>> (y &&& 31)))
  | .iushr => x_st pc 1 lv w ck cs (x_ii st fun x y => some (x.toUInt32 >>> (y.toUInt32 &&& Int32.toUInt32 31)).toInt32)
  | .ineg => x_st pc 1 lv w ck cs (x_i1 st fun x => .int (-x))
  | .i2l => x_st pc 1 lv w ck cs (x_i1 st fun x => .long x.toInt64)
  | .i2b => x_st pc 1 lv w ck cs (x_i1 st fun x => .int x.toInt8.toInt32)
  | .i2s => x_st pc 1 lv w ck cs (x_i1 st fun x => .int x.toInt16.toInt32)
  | .i2c => x_st pc 1 lv w ck cs (x_i1 st fun x => .int (x.toUInt32 % 65536).toInt32)
  | .l2i => x_st pc 1 lv w ck cs (x_l1 st fun x => .int x.toInt32)
  | .lneg => x_st pc 1 lv w ck cs (x_l1 st fun x => .long (-x))
  | .ladd => x_st pc 1 lv w ck cs (x_ll st fun x y => some (x + y))
  | .lsub => x_st pc 1 lv w ck cs (x_ll st fun x y => some (x - y))
  | .lmul => x_st pc 1 lv w ck cs (x_ll st fun x y => some (x * y))
  | .ldiv => x_st pc 1 lv w ck cs (x_ll st fun x y => if y = 0 then none else some (x / y))
  | .lcmp => x_st pc 1 lv w ck cs (match st with
    | .long y :: .long x :: r => some (.int (lg_cmp x y) :: r)
    | _ => none)
  | .dup => x_st pc 1 lv w ck cs (match st with
    | v :: r => if v.category = 1 then some (v :: v :: r) else none
    | _ => none)
  | .pop => x_st pc 1 lv w ck cs (match st with
    | v :: r => if v.category = 1 then some r else none
    | _ => none)
  | .dup2 => x_st pc 1 lv w ck cs (match st with
    | v :: v2 :: r => if v.category = 1 ∧ v2.category = 1 then some (v :: v2 :: v :: v2 :: r) else none
    | _ => none)
  | .goto off => x_jp lv st w ck cs (x_to pc off)
  | .ifCond c off => match st with
    | .int x :: r => x_jp lv r w ck cs (x_if pc off (x_c0 c x))
    | _ => none
  | .if_icmp c off => match st with
    | .int y :: .int x :: r => x_jp lv r w ck cs (x_if pc off (x_c2 c x y))
    | _ => none
  | .tableswitch d lo hi offs => match st with
    | .int x :: r => x_jp lv r w ck cs (if x.toInt < lo ∨ hi < x.toInt then x_to pc d else (match offs[(x.toInt - lo).toNat]? with
      | some off => x_to pc off
      | none => none))
    | _ => none
  | .lookupswitch d ps => match st with
    | .int x :: r => if (ps.toList.zip (ps.toList.drop 1)).all (fun (a, next) => a.1 < next.1) = true then x_jp lv r w ck cs (x_to pc (Op.lookupswitch.offset ps.toList d x.toInt)) else none
    | _ => none
  | .iaload => x_st pc 1 lv w ck cs (x_ai G 0 0 .int w st)
  | .baload => x_st pc 1 lv w ck cs (x_ai G 2 3 .byte w st)
  | .laload => x_st pc 1 lv w ck cs (x_al w st)
  | .arraylength => x_st pc 1 lv w ck cs (x_an G w st)
  | .iastore => x_sw pc 1 lv ck cs (x_si false w st)
  | .bastore => x_sw pc 1 lv ck cs (x_si true w st)
  | .lastore => x_sw pc 1 lv ck cs (x_sl w st)
  | .getfield k => x_st pc 3 lv w ck cs (x_gf w k st)
  | .putfield k => x_sw pc 3 lv ck cs (x_pf G w k st)
  | .putstatic k => x_sw pc 3 lv ck cs (x_pf G w k st)
  | .instanceof f => x_st pc 3 lv w ck cs (x_cg G f st)
  | .getstatic j => x_st pc 3 lv w ck cs (match G.1.1[j]? with
    | some q => some (q.2.2.2 :: st)
    | none => none)
  | .new ci => some (pc + 3, lv, .ref w.length :: st, w ++ [.inr (ci, G.2.2.1 ci)], ck + 1, cs + (G.2.2.1 ci).length)
  | .newarray t => match x_at t, st with
    | some (a, b), .int n :: r => if ¬ n < 0 ∧ n.toNatClampNeg * b ≤ 536870912 then some (pc + 2, lv, .ref w.length :: r, w ++ [.inl (a, x_a0 a n.toNatClampNeg)], ck + 1, cs + n.toNatClampNeg) else none
    | _, _ => none
  | _ => none
/-- how many operands a call takes: the receiver too -/
def x_take (n : Nat) (st : List Value) : Option (List Value × List Value) := if n ≤ st.length then some ((st.take n).reverse, st.drop n) else none
def x_cat (st : List Value) : Nat := (st.map fun v => v.category).sum
/-- a return of a value of the method's kind -/
def x_ret (i : Instr) (ret : Option FieldType) (st : List Value) : Option (Option Value) := match i, st with
  | .return_, [] => if ret = none then some none else none
  | .ireturn, [.int v] => match ret with
    | some ty => if narrow ty (.int v) = .int v then some (some (.int v)) else none
    | none => none
  | .lreturn, [.long v] => if ret = some .long then some (some (.long v)) else none
  | .areturn, [.retAddr k] => match ret with
    | some (.object _) => if k = 0 then none else some (some (.retAddr k))
    | _ => none
  | _, _ => none
def x_cl : Instr → Option (Nat × Nat)
  | .invokestatic j => some (0, j)
  | .invokevirtual j => some (1, j)
  | .invokespecial j => some (2, j)
  | .invokeinterface j _ => some (3, j)
  | _ => none
def x_rcv (G : xG) (kd cn : Nat) (as : List Value) (w : xW) : Bool := if kd = 0 then true else match as with
  | .ref b :: _ => if kd = 1 then (match w[b]? with
      | some (.inr (ci, _)) => decide (ci = cn)
      | _ => false) else true
  | .retAddr b :: _ => decide (kd = 1) && decide (cn = 90) && (x_cf b 0 G.1.2.2.1).isSome
  | _ => false
/-- calls of which the kit has rows: .athrow is Object's constructor, .fadd and .fsub Math.max and min of ints, .dadd and .dsub those of longs: the stack behind it, and what lay below the operands -/
def x_mi (i : Instr) (st : List Value) : Option (List Value × List Value) := match i, st with
  | .athrow, .ref _ :: r => some (r, r)
  | .fadd, .int y :: .int x :: r => some (.int (if x < y then y else x) :: r, r)
  | .fsub, .int y :: .int x :: r => some (.int (if y < x then y else x) :: r, r)
  | .dadd, .long y :: .long x :: r => some (.long (if y < x then x else y) :: r, r)
  | .dsub, .long y :: .long x :: r => some (.long (if y < x then y else x) :: r, r)
  | _, _ => none
/-- fuel, how many calls may still stand open, the method, where it stands -/
def x_exec (G : xG) (ms : Nat → Option xM) (cd : Nat → Nat → Option (Instr × Nat)) : Nat → Nat → Nat → Nat → xL → List Value → xW → Nat → Nat → Option (Option Value × xW × Nat × Nat)
  | 0, _, _, _, _, _, _, _, _ => none
  | n + 1, d, y, pc, lv, st, w, ck, cs =>
    match cd y pc, ms y with
    | some (i, len), some M =>
      match x_cl i with
      | some (kd, j) => match d, ms j with
        | d' + 1, some M' => match x_take M'.2.2.2.2.1 st with
          | some (as, r) => if x_cat r ≤ 8 ∧ x_cat as ≤ M'.2.2.1 ∧ x_rcv G kd M'.2.2.2.2.2 as w = true ∧ M'.2.2.2.2.2 ≠ 99 then
              match x_exec G ms cd n d' j 0 (lv_args 0 as) [] w 0 0 with
              | some (v, w', mc, mz) => x_exec G ms cd n d y (pc + 3) lv (v.toList ++ r) w' (ck + mc) (cs + mz)
              | none => none
            else none
          | none => none
        | _, _ => none
      | none => match x_ret i M.2.2.2.1 st with
        | some v => some (v, w, ck, cs)
        | none => match x_mi i st with
          | some (st', r) => if x_cat r ≤ 8 ∧ 1 ≤ d then x_exec G ms cd n d y (pc + 3) lv st' w ck cs else none
          | none => match x_step G M.2.2.1 len pc i lv st w ck cs with
            | some q => x_exec G ms cd n d y q.1 q.2.1 q.2.2.1 q.2.2.2.1 q.2.2.2.2.1 q.2.2.2.2.2
            | none => none
    | _, _ => none
