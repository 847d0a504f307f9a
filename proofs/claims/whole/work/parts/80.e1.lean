/-! AN ARRAY THAT NO METHOD OF A SET CAN COME TO -/
/-- no value is the array's reference -/
def oS (st : List Value) : Prop := ∀ v, v ∈ st → ¬ v = .ref 27
def oL (lv : xL) : Prop := ∀ e, e ∈ lv → ¬ e.2 = .ref 27
/-- only Scope.base holds it -/
def wOk (w : xW) : Prop := ∀ (a ci : Nat) (fs : List Value) (q : Nat), w[a]? = some (.inr (ci, fs)) → fs[q]? = some (.ref 27) → ci * 100 + q = 508
def n27 (j : Nat) : Bool := Nat.beq j 114 || (Nat.ble 116 j && Nat.ble j 183)
def okIn : Instr → Bool
  | .iconst _ => true
  | .bipush _ => true
  | .sipush _ => true
  | .lconst _ => true
  | .jsr _ => true
  | .jsr_w _ => true
  | .iload _ => true
  | .iload_n _ => true
  | .lload _ => true
  | .lload_n _ => true
  | .aload_n _ => true
  | .istore _ => true
  | .istore_n _ => true
  | .lstore _ => true
  | .lstore_n _ => true
  | .iinc _ _ => true
  | .iadd => true
  | .isub => true
  | .imul => true
  | .iand => true
  | .ior => true
  | .ixor => true
  | .idiv => true
  | .irem => true
  | .ishl => true
  | .ishr => true
  | .iushr => true
  | .ineg => true
  | .i2l => true
  | .i2s => true
  | .l2i => true
  | .ladd => true
  | .lsub => true
  | .ldiv => true
  | .lcmp => true
  | .dup2 => true
  | .goto _ => true
  | .ifCond _ _ => true
  | .if_icmp _ _ => true
  | .tableswitch _ _ _ _ => true
  | .lookupswitch _ _ => true
  | .iaload => true
  | .baload => true
  | .arraylength => true
  | .iastore => true
  | .bastore => true
  | .getfield k => !(Nat.beq k 508)
  | .putfield _ => true
  | .getstatic _ => true
  | .fadd => true
  | .fsub => true
  | .invokestatic j => n27 j
  | .invokevirtual j => n27 j
  | .ireturn => true
  | .lreturn => true
  | .return_ => true
  | _ => false
def fwI : Instr → Bool
  | .goto off => decide (0 ≤ off)
  | .ifCond _ off => decide (0 ≤ off)
  | .if_icmp _ off => decide (0 ≤ off)
  | .tableswitch _ _ _ _ => false
  | .lookupswitch _ _ => false
  | _ => true
theorem oS.c {v : Value} {st : List Value} (h : oS st) (hv : ¬ v = .ref 27) : oS (v :: st) := fun u hu => by
  rcases List.mem_cons.mp hu with e | e
  · rw [e]; exact hv
  · exact h u e
theorem oS.t {v : Value} {st : List Value} (h : oS (v :: st)) : oS st := fun u hu => h u (List.mem_cons_of_mem _ hu)
theorem x_lk_m {k : Nat} {v : Value} : ∀ {lv : xL}, x_lk k lv = some v → ∃ e, e ∈ lv ∧ e.2 = v
  | [], h => by cases h
  | q :: l, h => by
    unfold x_lk at h
    split at h
    · exact ⟨q, List.mem_cons_self, Option.some.inj h⟩
    · obtain ⟨e, e1, e2⟩ := x_lk_m h
      exact ⟨e, List.mem_cons_of_mem _ e1, e2⟩
/-- what a step keeps -/
def ntQ (w : xW) (pc : Nat) (fw : Bool) (q : xR) : Prop := oS q.2.2.1 ∧ oL q.2.1 ∧ wOk q.2.2.2.1 ∧ q.2.2.2.1[27]? = w[27]? ∧ (fw = true → pc ≤ q.1)
theorem nt_st {pc len : Nat} {lv : xL} {w : xW} {ck cs : Nat} {o : Option (List Value)} {q : xR} {fw : Bool} (h : x_st pc len lv w ck cs o = some q) (hl : oL lv) (hw : wOk w) (ho : ∀ st', o = some st' → oS st') : ntQ w pc fw q := by
  unfold x_st at h
  cases o with
  | none => cases h
  | some st' =>
    have e := (Option.some.inj h).symm
    subst e
    exact ⟨ho st' rfl, hl, hw, rfl, fun _ => Nat.le_add_right _ _⟩
theorem nt_sw {pc len : Nat} {lv : xL} {ck cs : Nat} {w : xW} {o : Option (List Value × xW)} {q : xR} {fw : Bool} (h : x_sw pc len lv ck cs o = some q) (hl : oL lv) (ho : ∀ p, o = some p → oS p.1 ∧ wOk p.2 ∧ p.2[27]? = w[27]?) : ntQ w pc fw q := by
  unfold x_sw at h
  cases o with
  | none => cases h
  | some p =>
    have e := (Option.some.inj h).symm
    subst e
    obtain ⟨a, b, c⟩ := ho p rfl
    exact ⟨a, hl, b, c, fun _ => Nat.le_add_right _ _⟩
theorem x_to_le {pc t : Nat} {off : Int} (h : x_to pc off = some t) (h0 : 0 ≤ off) : pc ≤ t := by
  unfold x_to at h
  split at h
  · rename_i u e
    have := Option.some.inj h
    have e : (pc : Int) + off = (u : Int) := e
    omega
  · cases h
theorem x_if_le {pc t : Nat} {off : Int} {b : Bool} (h : x_if pc off b = some t) (h0 : 0 ≤ off) : pc ≤ t := by
  unfold x_if at h
  cases hx : x_to pc off with
  | none => rw [hx] at h; cases h
  | some u =>
    rw [hx] at h
    have h : (if b = true then u else pc + 3) = t := Option.some.inj h
    have := x_to_le hx h0
    split at h <;> omega
theorem nt_jp {pc : Nat} {lv : xL} {st : List Value} {w : xW} {ck cs : Nat} {o : Option Nat} {q : xR} {fw : Bool} (h : x_jp lv st w ck cs o = some q) (hs : oS st) (hl : oL lv) (hw : wOk w) (hp : fw = true → ∀ t, o = some t → pc ≤ t) : ntQ w pc fw q := by
  unfold x_jp at h
  cases o with
  | none => cases h
  | some t =>
    have e := (Option.some.inj h).symm
    subst e
    exact ⟨hs, hl, hw, rfl, fun z => hp z t rfl⟩
theorem x_s1_o {i : Nat} {v : Value} {lv : xL} (h : oL lv) (hv : ¬ v = .ref 27) : oL (x_s1 i v lv) := fun e he => by
  unfold x_s1 at he
  rcases List.mem_cons.mp he with y | y
  · rw [y]; exact hv
  · exact h e (List.mem_filter.mp y).1
theorem x_s2_o {i : Nat} {v : Value} {lv : xL} (h : oL lv) (hv : ¬ v = .ref 27) : oL (x_s2 i v lv) := fun e he => by
  unfold x_s2 at he
  rcases List.mem_cons.mp he with y | y
  · rw [y]; exact hv
  · exact h e (List.mem_filter.mp y).1
theorem nt_sv {pc len i nL : Nat} {ok : Value → Bool} {two : Bool} {lv : xL} {st : List Value} {w : xW} {ck cs : Nat} {q : xR} {fw : Bool} (h : x_sv pc len i nL ok two lv st w ck cs = some q) (hs : oS st) (hl : oL lv) (hw : wOk w) : ntQ w pc fw q := by
  unfold x_sv at h
  cases st with
  | nil => cases h
  | cons v r =>
    dsimp only at h
    by_cases c : ok v = true ∧ (if two = true then i + 1 else i) < nL
    · rw [if_pos c] at h
      have e := (Option.some.inj h).symm
      subst e
      refine ⟨hs.t, ?_, hw, rfl, fun _ => Nat.le_add_right _ _⟩
      show oL (if two = true then x_s2 i v lv else x_s1 i v lv)
      have hv := hs v List.mem_cons_self
      split
      · exact x_s2_o hl hv
      · exact x_s1_o hl hv
    · rw [if_neg c] at h
      cases h
theorem o_ii {st : List Value} {f : Int32 → Int32 → Option Int32} (hs : oS st) : ∀ st', x_ii st f = some st' → oS st' := by
  intro st' h
  unfold x_ii at h
  split at h
  · rename_i y x r
    cases hf : f x y with
    | none => rw [hf] at h; cases h
    | some z =>
      rw [hf] at h
      rw [← Option.some.inj h]
      exact hs.t.t.c (by intro z; cases z)
  · cases h
theorem o_ll {st : List Value} {f : Int64 → Int64 → Option Int64} (hs : oS st) : ∀ st', x_ll st f = some st' → oS st' := by
  intro st' h
  unfold x_ll at h
  split at h
  · rename_i y x r
    cases hf : f x y with
    | none => rw [hf] at h; cases h
    | some z =>
      rw [hf] at h
      rw [← Option.some.inj h]
      exact hs.t.t.c (by intro z; cases z)
  · cases h
theorem o_i1 {st : List Value} {f : Int32 → Value} (hs : oS st) (hf : ∀ x, ¬ f x = .ref 27) : ∀ st', x_i1 st f = some st' → oS st' := by
  intro st' h
  unfold x_i1 at h
  split at h
  · rw [← Option.some.inj h]
    exact hs.t.c (hf _)
  · cases h
theorem o_l1 {st : List Value} {f : Int64 → Value} (hs : oS st) (hf : ∀ x, ¬ f x = .ref 27) : ∀ st', x_l1 st f = some st' → oS st' := by
  intro st' h
  unfold x_l1 at h
  split at h
  · rw [← Option.some.inj h]
    exact hs.t.c (hf _)
  · cases h
theorem o_ld {st : List Value} {k : Nat} {lv : xL} {ok : Value → Bool} (hs : oS st) (hl : oL lv) : ∀ st', x_ld st (x_lk k lv) ok = some st' → oS st' := by
  intro st' h
  unfold x_ld at h
  split at h
  · rename_i v hv
    split at h
    · rw [← Option.some.inj h]
      obtain ⟨e, e1, e2⟩ := x_lk_m hv
      exact hs.c (by rw [← e2]; exact hl e e1)
    · cases h
  · cases h
theorem o_ai {G : xG} {t1 t2 : Nat} {ty : FieldType} {w : xW} {st : List Value} (hs : oS st) : ∀ st', x_ai G t1 t2 ty w st = some st' → oS st' := by
  intro st' h
  unfold x_ai at h
  split at h
  · split at h
    · split at h
      · rw [← Option.some.inj h]
        exact hs.t.t.c (by intro z; cases z)
      · cases h
    · cases h
  · split at h
    · split at h
      · rw [← Option.some.inj h]
        exact hs.t.t.c (by intro z; cases z)
      · cases h
    · cases h
  · cases h
theorem o_an {G : xG} {w : xW} {st : List Value} (hs : oS st) : ∀ st', x_an G w st = some st' → oS st' := by
  intro st' h
  unfold x_an at h
  split at h
  · split at h
    · split at h
      · rw [← Option.some.inj h]
        exact hs.t.c (by intro z; cases z)
      · cases h
    · cases h
  · split at h
    · rw [← Option.some.inj h]
      exact hs.t.c (by intro z; cases z)
    · cases h
  · cases h
theorem w_set {w : xW} {k : Nat} {x : xE} (hk : ¬ k = 27) : (w.set k x)[27]? = w[27]? := by
  rw [List.getElem?_set, if_neg hk]
theorem wOk.sl {w : xW} {k : Nat} {a : Nat × vp_A} (h : wOk w) : wOk (w.set k (.inl a)) := by
  intro b ci fs q hb hq
  rw [List.getElem?_set] at hb
  split at hb
  · split at hb
    · cases hb
    · cases hb
  · exact h b ci fs q hb hq
theorem o_si {b : Bool} {w : xW} {st : List Value} (hs : oS st) (hw : wOk w) : ∀ p, x_si b w st = some p → oS p.1 ∧ wOk p.2 ∧ p.2[27]? = w[27]? := by
  intro p h
  unfold x_si at h
  split at h
  · rename_i x i k r
    have hk : ¬ k = 27 := fun e => hs (.ref k) (by simp) (by rw [e])
    split at h
    · split at h
      · rw [← Option.some.inj h]
        exact ⟨hs.t.t.t, hw.sl, w_set hk⟩
      · cases h
    · split at h
      · rw [← Option.some.inj h]
        exact ⟨hs.t.t.t, hw.sl, w_set hk⟩
      · cases h
    · split at h
      · rw [← Option.some.inj h]
        exact ⟨hs.t.t.t, hw.sl, w_set hk⟩
      · cases h
    · cases h
  · cases h
theorem o_pf {G : xG} {w : xW} {k : Nat} {st : List Value} (hs : oS st) (hw : wOk w) (hA : ∃ A, w[27]? = some (.inl A)) : ∀ p, x_pf G w k st = some p → oS p.1 ∧ wOk p.2 ∧ p.2[27]? = w[27]? := by
  intro p h
  unfold x_pf at h
  split at h
  · rename_i v a r
    split at h
    · rename_i ci fs hwa
      split at h
      · rename_i c
        rw [← Option.some.inj h]
        obtain ⟨A, hA⟩ := hA
        have ne : ¬ a = 27 := fun e => by rw [e, hA] at hwa; cases hwa
        refine ⟨hs.t.t, ?_, w_set ne⟩
        intro b cj gs q hb hq
        show cj * 100 + q = 508
        rw [List.getElem?_set] at hb
        split at hb
        · split at hb
          · have e := Option.some.inj hb
            have e := Sum.inr.inj e
            have e1 : ci = cj := congrArg Prod.fst e
            have e2 : fs.set (k % 100) v = gs := congrArg Prod.snd e
            rw [← e2, List.getElem?_set] at hq
            split at hq
            · split at hq
              · exact absurd (Option.some.inj hq) (hs v (by simp))
              · cases hq
            · rw [← e1]
              exact hw a ci fs q hwa hq
          · cases hb
        · exact hw b cj gs q hb hq
      · cases h
    · cases h
  · cases h
theorem o_gf {w : xW} {k : Nat} {st : List Value} (hs : oS st) (hw : wOk w) (hk : ¬ k = 508) : ∀ st', x_gf w k st = some st' → oS st' := by
  intro st' h
  unfold x_gf at h
  split at h
  · rename_i a r
    split at h
    · rename_i ci fs hwa
      split at h
      · rename_i c
        split at h
        · rename_i v hv
          rw [← Option.some.inj h]
          refine hs.t.c (fun e => ?_)
          rw [e] at hv
          have := hw a ci fs _ hwa hv
          rw [c] at this
          apply hk
          omega
        · cases h
      · cases h
    · cases h
  · cases h
theorem nt_step {G : xG} (hst : ∀ q, q ∈ G.1.1 → ¬ q.2.2.2 = .ref 27) {nL len pc : Nat} {i : Instr} {lv : xL} {st : List Value} {w : xW} {ck cs : Nat} {q : xR} (ho : okIn i = true) (h : x_step G nL len pc i lv st w ck cs = some q) (hs : oS st) (hl : oL lv) (hw : wOk w) (hA : ∃ A, w[27]? = some (.inl A)) : ntQ w pc (fwI i) q := by
  have pI : ∀ (x : Int32), oS (.int x :: st) := fun x => hs.c (by intro z; cases z)
  have pL : ∀ (x : Int64), oS (.long x :: st) := fun x => hs.c (by intro z; cases z)
  cases i <;> first
    | (exact absurd ho Bool.false_ne_true)
    | (simp only [x_step] at h; exact nt_st h hl hw (fun st' e => by rw [← Option.some.inj e]; exact pI _))
    | (simp only [x_step] at h; exact nt_st h hl hw (fun st' e => by rw [← Option.some.inj e]; exact pL _))
    | (simp only [x_step] at h; exact nt_st h hl hw (o_ld hs hl))
    | (simp only [x_step] at h; exact nt_sv h hs hl hw)
    | (simp only [x_step] at h; exact nt_st h hl hw (o_ii hs))
    | (simp only [x_step] at h; exact nt_st h hl hw (o_ll hs))
    | (simp only [x_step] at h; exact nt_st h hl hw (o_i1 hs (fun x z => by cases z)))
    | (simp only [x_step] at h; exact nt_st h hl hw (o_l1 hs (fun x z => by cases z)))
    | (simp only [x_step] at h; exact nt_st h hl hw (o_ai hs))
    | (simp only [x_step] at h; exact nt_st h hl hw (o_an hs))
    | (simp only [x_step] at h; exact nt_sw h hl (o_si hs hw))
    | (simp only [x_step] at h; exact nt_sw h hl (o_pf hs hw hA))
    | (simp only [x_step] at h; exact nt_st h hl hw (o_gf hs hw (fun e => by rw [e] at ho; exact absurd ho (by decide))))
    | (simp only [x_step] at h; exact nt_jp h hs hl hw (fun z t e => x_to_le e (of_decide_eq_true z)))
    | (simp only [x_step] at h; cases h; done)
    | skip
  case iinc k n =>
    simp only [x_step] at h
    split at h
    · split at h
      · have e := (Option.some.inj h).symm
        subst e
        exact ⟨hs, x_s1_o hl (by intro z; cases z), hw, rfl, fun _ => Nat.le_add_right _ _⟩
      · cases h
    · cases h
  case lcmp =>
    simp only [x_step] at h
    refine nt_st h hl hw (fun st' e => ?_)
    split at e
    · rw [← Option.some.inj e]
      exact hs.t.t.c (by intro z; cases z)
    · cases e
  case dup2 =>
    simp only [x_step] at h
    refine nt_st h hl hw (fun st' e => ?_)
    split at e
    · split at e
      · rw [← Option.some.inj e]
        have a := hs _ List.mem_cons_self
        have b := hs.t _ List.mem_cons_self
        exact (hs.c b).c a
      · cases e
    · cases e
  case ifCond c off =>
    simp only [x_step] at h
    split at h
    · exact nt_jp h hs.t hl hw (fun z t e => x_if_le e (of_decide_eq_true z))
    · cases h
  case if_icmp c off =>
    simp only [x_step] at h
    split at h
    · exact nt_jp h hs.t.t hl hw (fun z t e => x_if_le e (of_decide_eq_true z))
    · cases h
  case tableswitch d lo hi offs =>
    simp only [x_step] at h
    split at h
    · exact nt_jp h hs.t hl hw (fun z => by cases z)
    · cases h
  case lookupswitch d ps =>
    simp only [x_step] at h
    split at h
    · split at h
      · exact nt_jp h hs.t hl hw (fun z => by cases z)
      · cases h
    · cases h
  case getstatic j =>
    simp only [x_step] at h
    refine nt_st h hl hw (fun st' e => ?_)
    split at e
    · rename_i p hp
      rw [← Option.some.inj e]
      exact hs.c (hst p (List.mem_of_getElem? hp))
    · cases e
theorem lv_o {as : List Value} (h : oS as) : ∀ (i : Nat), oL (lv_args i as) := by
  induction as with
  | nil => intro i e he; cases he
  | cons v as ih =>
    intro i e he
    have he : e ∈ (i, v) :: lv_args (if v.category = 2 then i + 2 else i + 1) as := he
    rcases List.mem_cons.mp he with y | y
    · rw [y]; exact h v List.mem_cons_self
    · exact ih h.t _ e y
/-- where such code stands -/
def gdP (y pc : Nat) : Prop := n27 y = true ∨ (y = 112 ∧ 149 ≤ pc)
theorem nt_exec {G : xG} (hst : ∀ q, q ∈ G.1.1 → ¬ q.2.2.2 = .ref 27) {ms : Nat → Option xM} {cd : Nat → Nat → Option (Instr × Nat)} (hcd : ∀ y pc i len, gdP y pc → cd y pc = some (i, len) → okIn i = true ∧ (y = 112 → fwI i = true)) : ∀ (n d y pc : Nat) (lv : xL) (st : List Value) (w : xW) (ck cs : Nat) (v : Option Value) (w' : xW) (a b : Nat), gdP y pc → x_exec G ms cd n d y pc lv st w ck cs = some (v, w', a, b) → oS st → oL lv → wOk w → (∃ A, w[27]? = some (.inl A)) → w'[27]? = w[27]? ∧ wOk w' ∧ ∀ u, v = some u → ¬ u = .ref 27 := by
  intro n
  induction n with
  | zero => intro d y pc lv st w ck cs v w' a b _ h; cases h
  | succ n ih =>
    intro d y pc lv st w ck cs v w' a b hg h hs hl hw hA
    unfold x_exec at h
    split at h
    · rename_i i len M hc hM
      obtain ⟨ok, fw⟩ := hcd y pc i len hg hc
      have g3 : gdP y (pc + 3) := hg.imp id (fun z => ⟨z.1, by omega⟩)
      split at h
      · rename_i kd j hcl
        have hj : n27 j = true := by
          cases i <;> first
            | (exact absurd ok Bool.false_ne_true)
            | (simp [x_cl] at hcl; done)
            | (simp only [x_cl, Option.some.injEq, Prod.mk.injEq] at hcl
               obtain ⟨-, e⟩ := hcl
               rw [← e]
               exact ok)
        split at h
        · rename_i d' M' hM'
          split at h
          · rename_i as r ht
            split at h
            · split at h
              · rename_i v1 w1 mc mz hx
                have hta : oS as ∧ oS r := by
                  unfold x_take at ht
                  split at ht
                  · have e := Option.some.inj ht
                    have e1 : (st.take M'.2.2.2.2.1).reverse = as := congrArg Prod.fst e
                    have e2 : st.drop M'.2.2.2.2.1 = r := congrArg Prod.snd e
                    rw [← e1, ← e2]
                    exact ⟨fun u hu => hs u (List.mem_of_mem_take (List.mem_reverse.mp hu)), fun u hu => hs u (List.mem_of_mem_drop hu)⟩
                  · cases ht
                obtain ⟨q1, q2, q3⟩ := ih d' j 0 (lv_args 0 as) [] w 0 0 v1 w1 mc mz (Or.inl hj) hx (fun u hu => by cases hu) (lv_o hta.1 0) hw hA
                have hA1 : ∃ A, w1[27]? = some (.inl A) := by rw [q1]; exact hA
                obtain ⟨p1, p2, p3⟩ := ih _ y (pc + 3) lv (v1.toList ++ r) w1 _ _ v w' a b g3 h (fun u hu => by
                  rcases List.mem_append.mp hu with z | z
                  · cases v1 with
                    | none => cases z
                    | some u1 => rw [List.mem_singleton.mp z]; exact q3 u1 rfl
                  · exact hta.2 u z) hl q2 hA1
                exact ⟨p1.trans q1, p2, p3⟩
              · cases h
            · cases h
          · cases h
        · cases h
      · split at h
        · rename_i v0 hr
          have e := Option.some.inj h
          have e1 : v0 = v := congrArg Prod.fst e
          have e2 : w = w' := congrArg (fun z => z.2.1) e
          rw [← e2, ← e1]
          refine ⟨rfl, hw, fun u hu => ?_⟩
          unfold x_ret at hr
          split at hr
          · split at hr
            · rw [← Option.some.inj hr] at hu; cases hu
            · cases hr
          · split at hr
            · split at hr
              · rw [← Option.some.inj hr] at hu
                rw [← Option.some.inj hu]
                intro z; cases z
              · cases hr
            · cases hr
          · split at hr
            · rw [← Option.some.inj hr] at hu
              rw [← Option.some.inj hu]
              intro z; cases z
            · cases hr
          · split at hr
            · split at hr
              · cases hr
              · rw [← Option.some.inj hr] at hu
                rw [← Option.some.inj hu]
                intro z; cases z
            · cases hr
          · cases hr
        · split at h
          · rename_i st' r hm
            split at h
            · refine ih d y (pc + 3) lv st' w ck cs v w' a b g3 h ?_ hl hw hA
              unfold x_mi at hm
              split at hm
              · have e := Option.some.inj hm
                have e1 := congrArg Prod.fst e
                dsimp only at e1
                rw [← e1]
                exact hs.t
              · have e := Option.some.inj hm
                have e1 := congrArg Prod.fst e
                dsimp only at e1
                rw [← e1]
                exact hs.t.t.c (by intro z; cases z)
              · have e := Option.some.inj hm
                have e1 := congrArg Prod.fst e
                dsimp only at e1
                rw [← e1]
                exact hs.t.t.c (by intro z; cases z)
              · have e := Option.some.inj hm
                have e1 := congrArg Prod.fst e
                dsimp only at e1
                rw [← e1]
                exact hs.t.t.c (by intro z; cases z)
              · have e := Option.some.inj hm
                have e1 := congrArg Prod.fst e
                dsimp only at e1
                rw [← e1]
                exact hs.t.t.c (by intro z; cases z)
              · cases hm
            · cases h
          · split at h
            · rename_i q hq
              obtain ⟨s1, s2, s3, s4, s5⟩ := nt_step hst ok hq hs hl hw hA
              have hA1 : ∃ A, q.2.2.2.1[27]? = some (.inl A) := by rw [s4]; exact hA
              obtain ⟨p1, p2, p3⟩ := ih d y q.1 q.2.1 q.2.2.1 q.2.2.2.1 _ _ v w' a b (hg.imp id (fun z => ⟨z.1, by have := s5 (fw z.1); omega⟩)) h s1 s2 s3 hA1
              exact ⟨p1.trans s4, p2, p3⟩
            · cases h
    · cases h
