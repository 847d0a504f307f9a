/-! THE REFERENCE'S PLACE: one step -/
def NZa (st : List Value) (k : Nat) : Prop := ∃ x : Int32, st[k]? = some (.int x) ∧ ¬ x = 0
def NZl (lv : xL) : Prop := ∃ x : Int32, x_lk 1 lv = some (.int x) ∧ ¬ x = 0
def f58 (w : xW) (k : Nat) : Option Value := match (w[58]? : Option xE) with
  | some (.inr q) => q.2[k]?
  | _ => none
def W3 (w : xW) : Prop := ∃ x : Int32, f58 w 3 = some (.int x) ∧ ¬ x = 0
def I4 (w : xW) : Prop := (∃ fs, w[58]? = some (.inr (12, fs))) ∧ (W3 w ∨ f58 w 4 = some (.int (-1))) ∧ ∀ (a : Nat) (fs : List Value), w[a]? = some (.inr (12, fs)) → a = 58
/-- objects keep their classes -/
def clK (w w' : xW) : Prop := ∀ (a ci : Nat) (fs : List Value), w'[a]? = some (.inr (ci, fs)) → ∃ fs' : List Value, w[a]? = some (.inr (ci, fs'))
theorem clK.re (w : xW) : clK w w := fun _ _ fs h => ⟨fs, h⟩
theorem clK.sl {w : xW} {k : Nat} {A : Nat × vp_A} : clK w (w.set k (.inl A)) := by
  intro a ci fs h
  rw [List.getElem?_set] at h
  split at h
  · split at h <;> cases h
  · exact ⟨fs, h⟩
theorem clK.sr {w : xW} {k ci : Nat} {fs fs2 : List Value} (hk : w[k]? = some (.inr (ci, fs))) : clK w (w.set k (.inr (ci, fs2))) := by
  intro a cj gs h
  rw [List.getElem?_set] at h
  split at h
  · rename_i e
    split at h
    · have h := Sum.inr.inj (Option.some.inj h)
      have e1 : ci = cj := congrArg Prod.fst h
      rw [← e1, ← e]
      exact ⟨fs, hk⟩
    · cases h
  · exact ⟨gs, h⟩
theorem f58_e {w w' : xW} (h : w'[58]? = w[58]?) (k : Nat) : f58 w' k = f58 w k := by unfold f58; rw [h]
theorem W3.e {w w' : xW} (h : w'[58]? = w[58]?) (q : W3 w) : W3 w' := by
  unfold W3
  rw [f58_e h]
  exact q
theorem I4.e {w w' : xW} (h : w'[58]? = w[58]?) (c : clK w w') (q : I4 w) : I4 w' := by
  obtain ⟨q1, q2, q3⟩ := q
  refine ⟨by rw [h]; exact q1, ?_, fun a fs e => ?_⟩
  · unfold W3
    rw [f58_e h, f58_e h]
    exact q2
  · obtain ⟨gs, e⟩ := c a 12 fs e
    exact q3 a gs e
def efQ (pc : Nat) (lv : xL) (st : List Value) (w : xW) (nz : Bool) (r : Nat × List Bool × Nat) (q : xR) : Prop := q.1 = pc + r.2.2 ∧ (nz = true → q.2.1 = lv) ∧ (∃ vs : List Value, vs.length = r.2.1.length ∧ q.2.2.1 = vs ++ st.drop r.1 ∧ ∀ k : Nat, r.2.1[k]? = some true → NZa vs k) ∧ q.2.2.2.1[58]? = w[58]? ∧ clK w q.2.2.2.1
def laQ (st : List Value) (p : Nat) (ts : List Bool) (st' : List Value) : Prop := ∃ vs : List Value, vs.length = ts.length ∧ st' = vs ++ st.drop p ∧ ∀ k : Nat, ts[k]? = some true → NZa vs k
theorem e_st {pc n : Nat} {lv : xL} {w : xW} {ck cs : Nat} {o : Option (List Value)} {q : xR} {st : List Value} {nz : Bool} {p : Nat} {ts : List Bool} (h : x_st pc n lv w ck cs o = some q) (ho : ∀ st', o = some st' → laQ st p ts st') : efQ pc lv st w nz (p, ts, n) q := by
  unfold x_st at h
  cases o with
  | none => cases h
  | some st' =>
    have e := (Option.some.inj h).symm
    subst e
    exact ⟨rfl, fun _ => rfl, ho st' rfl, rfl, clK.re w⟩
theorem e_sw {pc n : Nat} {lv : xL} {w : xW} {ck cs : Nat} {o : Option (List Value × xW)} {q : xR} {st : List Value} {nz : Bool} {p : Nat} {ts : List Bool} (h : x_sw pc n lv ck cs o = some q) (ho : ∀ u, o = some u → laQ st p ts u.1 ∧ u.2[58]? = w[58]? ∧ clK w u.2) : efQ pc lv st w nz (p, ts, n) q := by
  unfold x_sw at h
  cases o with
  | none => cases h
  | some u =>
    have e := (Option.some.inj h).symm
    subst e
    exact ⟨rfl, fun _ => rfl, (ho u rfl).1, (ho u rfl).2⟩
theorem e_sv {pc n i nL : Nat} {ok : Value → Bool} {two : Bool} {lv : xL} {w : xW} {ck cs : Nat} {q : xR} {st : List Value} (h : x_sv pc n i nL ok two lv st w ck cs = some q) : efQ pc lv st w false (1, [], n) q := by
  unfold x_sv at h
  cases st with
  | nil => cases h
  | cons v r =>
    dsimp only at h
    by_cases c : ok v = true ∧ (if two = true then i + 1 else i) < nL
    · rw [if_pos c] at h
      have e := (Option.some.inj h).symm
      subst e
      exact ⟨rfl, (fun z => by cases z), ⟨[], rfl, rfl, fun k z => by simp at z⟩, rfl, clK.re w⟩
    · rw [if_neg c] at h
      cases h
theorem la1 {st st' : List Value} {p : Nat} (h : ∃ v, st' = v :: st.drop p) : laQ st p [false] st' := by
  obtain ⟨v, e⟩ := h
  exact ⟨[v], rfl, e, fun k z => by cases k <;> simp at z⟩
theorem laK {st st' : List Value} {c : Int32} (h : st' = .int c :: st) : laQ st 0 [decide (¬ c = 0)] st' := by
  refine ⟨[.int c], rfl, h, fun k z => ?_⟩
  cases k with
  | zero =>
    have z : decide (¬ c = 0) = true := by simpa using z
    exact ⟨c, rfl, of_decide_eq_true z⟩
  | succ k => simp at z
theorem la_ld {st : List Value} {o : Option Value} {ok : Value → Bool} : ∀ st', x_ld st o ok = some st' → laQ st 0 [false] st' := by
  intro st' h
  unfold x_ld at h
  split at h
  · split at h
    · exact la1 ⟨_, (Option.some.inj h).symm⟩
    · cases h
  · cases h
theorem la_lz {st : List Value} {k : Nat} {lv : xL} {nz : Bool} (hz : nz = true → NZl lv) : ∀ st', x_ld st (x_lk k lv) x_isI = some st' → laQ st 0 [nz && Nat.beq k 1] st' := by
  intro st' h
  unfold x_ld at h
  split at h
  · rename_i v hv
    split at h
    · refine ⟨[v], rfl, (Option.some.inj h).symm, fun j z => ?_⟩
      cases j with
      | zero =>
        have z : (nz && Nat.beq k 1) = true := by simpa using z
        rw [Bool.and_eq_true] at z
        obtain ⟨x, x1, x2⟩ := hz z.1
        rw [Nat.eq_of_beq_eq_true z.2, x1] at hv
        exact ⟨x, congrArg some (Option.some.inj hv).symm, x2⟩
      | succ j => simp at z
    · cases h
  · cases h
theorem la_ii {st : List Value} {f : Int32 → Int32 → Option Int32} : ∀ st', x_ii st f = some st' → laQ st 2 [false] st' := by
  intro st' h
  unfold x_ii at h
  split at h
  · rename_i y x r
    cases hf : f x y with
    | none => rw [hf] at h; cases h
    | some z => rw [hf] at h; exact la1 ⟨_, (Option.some.inj h).symm⟩
  · cases h
theorem la_ll {st : List Value} {f : Int64 → Int64 → Option Int64} : ∀ st', x_ll st f = some st' → laQ st 2 [false] st' := by
  intro st' h
  unfold x_ll at h
  split at h
  · rename_i y x r
    cases hf : f x y with
    | none => rw [hf] at h; cases h
    | some z => rw [hf] at h; exact la1 ⟨_, (Option.some.inj h).symm⟩
  · cases h
theorem la_i1 {st : List Value} {f : Int32 → Value} : ∀ st', x_i1 st f = some st' → laQ st 1 [false] st' := by
  intro st' h
  unfold x_i1 at h
  split at h
  · exact la1 ⟨_, (Option.some.inj h).symm⟩
  · cases h
theorem la_l1 {st : List Value} {f : Int64 → Value} : ∀ st', x_l1 st f = some st' → laQ st 1 [false] st' := by
  intro st' h
  unfold x_l1 at h
  split at h
  · exact la1 ⟨_, (Option.some.inj h).symm⟩
  · cases h
theorem la_ai {G : xG} {t1 t2 : Nat} {ty : FieldType} {w : xW} {st : List Value} : ∀ st', x_ai G t1 t2 ty w st = some st' → laQ st 2 [false] st' := by
  intro st' h
  unfold x_ai at h
  split at h
  · split at h
    · split at h
      · exact la1 ⟨_, (Option.some.inj h).symm⟩
      · cases h
    · cases h
  · split at h
    · split at h
      · exact la1 ⟨_, (Option.some.inj h).symm⟩
      · cases h
    · cases h
  · cases h
theorem la_al {w : xW} {st : List Value} : ∀ st', x_al w st = some st' → laQ st 2 [false] st' := by
  intro st' h
  unfold x_al at h
  split at h
  · split at h
    · split at h
      · exact la1 ⟨_, (Option.some.inj h).symm⟩
      · cases h
    · cases h
  · cases h
theorem la_an {G : xG} {w : xW} {st : List Value} : ∀ st', x_an G w st = some st' → laQ st 1 [false] st' := by
  intro st' h
  unfold x_an at h
  split at h
  · split at h
    · split at h
      · exact la1 ⟨_, (Option.some.inj h).symm⟩
      · cases h
    · cases h
  · split at h
    · exact la1 ⟨_, (Option.some.inj h).symm⟩
    · cases h
  · cases h
theorem la_gf {w : xW} {k : Nat} {st : List Value} : ∀ st', x_gf w k st = some st' → laQ st 1 [false] st' := by
  intro st' h
  unfold x_gf at h
  split at h
  · split at h
    · split at h
      · split at h
        · exact la1 ⟨_, (Option.some.inj h).symm⟩
        · cases h
      · cases h
    · cases h
  · cases h
theorem la_cg {G : xG} {k : Nat} {st : List Value} : ∀ st', x_cg G k st = some st' → laQ st 1 [false] st' := by
  intro st' h
  unfold x_cg at h
  split at h
  · split at h
    · exact la1 ⟨_, (Option.some.inj h).symm⟩
    · cases h
  · cases h
theorem w58_set {w : xW} {k : Nat} {x : xE} (hk : ¬ k = 58) : (w.set k x)[58]? = w[58]? := by
  rw [List.getElem?_set, if_neg hk]
theorem la_si {b : Bool} {w : xW} {st : List Value} (hw : ∃ fs, w[58]? = some (.inr (12, fs))) : ∀ u, x_si b w st = some u → laQ st 3 [] u.1 ∧ u.2[58]? = w[58]? ∧ clK w u.2 := by
  intro p h
  obtain ⟨fs, hw⟩ := hw
  unfold x_si at h
  split at h
  · rename_i x i k r
    have ne : ∀ {A : Nat × vp_A}, w[k]? = some (.inl A) → ¬ k = 58 := fun e z => by rw [z, hw] at e; cases e
    split at h
    · rename_i hk
      split at h
      · rw [← Option.some.inj h]
        exact ⟨⟨[], rfl, rfl, fun k z => by simp at z⟩, w58_set (ne hk), clK.sl⟩
      · cases h
    · rename_i hk
      split at h
      · rw [← Option.some.inj h]
        exact ⟨⟨[], rfl, rfl, fun k z => by simp at z⟩, w58_set (ne hk), clK.sl⟩
      · cases h
    · rename_i hk
      split at h
      · rw [← Option.some.inj h]
        exact ⟨⟨[], rfl, rfl, fun k z => by simp at z⟩, w58_set (ne hk), clK.sl⟩
      · cases h
    · cases h
  · cases h
theorem la_sl {w : xW} {st : List Value} (hw : ∃ fs, w[58]? = some (.inr (12, fs))) : ∀ u, x_sl w st = some u → laQ st 3 [] u.1 ∧ u.2[58]? = w[58]? ∧ clK w u.2 := by
  intro p h
  obtain ⟨fs, hw⟩ := hw
  unfold x_sl at h
  split at h
  · rename_i x i k r
    split at h
    · rename_i hk
      split at h
      · rw [← Option.some.inj h]
        exact ⟨⟨[], rfl, rfl, fun k z => by simp at z⟩, w58_set (fun z => by rw [z, hw] at hk; cases hk), clK.sl⟩
      · cases h
    · cases h
  · cases h
set_option maxHeartbeats 4000000 in
theorem ef_ok {G : xG} {nL len pc : Nat} {i : Instr} {lv : xL} {st : List Value} {w : xW} {ck cs : Nat} {q : xR} {nz : Bool} {r : Nat × List Bool × Nat} (he : efI nz len i = some r) (h : x_step G nL len pc i lv st w ck cs = some q) (hz : nz = true → NZl lv) (hw : ∃ fs, w[58]? = some (.inr (12, fs))) : efQ pc lv st w nz r q := by
  have st0 : ∀ {k n : Nat} {ok : Value → Bool} {two : Bool}, (bif nz then none else some (1, [], n)) = some r → x_sv pc n k nL ok two lv st w ck cs = some q → efQ pc lv st w nz r q := by
    intro k n ok two e hq
    cases nz with
    | true => cases e
    | false =>
      have e := Option.some.inj e
      subst e
      exact e_sv hq
  cases i <;> first
    | (cases he; done)
    | (simp only [x_step] at h; exact st0 he h)
    | (have e := Option.some.inj he; subst e; simp only [x_step] at h; exact e_st h (fun st' z => laK (Option.some.inj z).symm))
    | (have e := Option.some.inj he; subst e; simp only [x_step] at h; exact e_st h (fun st' z => la1 ⟨_, (Option.some.inj z).symm⟩))
    | (have e := Option.some.inj he; subst e; simp only [x_step] at h; exact e_st h (la_lz hz))
    | (have e := Option.some.inj he; subst e; simp only [x_step] at h; exact e_st h la_ld)
    | (have e := Option.some.inj he; subst e; simp only [x_step] at h; exact e_st h la_ii)
    | (have e := Option.some.inj he; subst e; simp only [x_step] at h; exact e_st h la_ll)
    | (have e := Option.some.inj he; subst e; simp only [x_step] at h; exact e_st h la_i1)
    | (have e := Option.some.inj he; subst e; simp only [x_step] at h; exact e_st h la_l1)
    | (have e := Option.some.inj he; subst e; simp only [x_step] at h; exact e_st h la_ai)
    | (have e := Option.some.inj he; subst e; simp only [x_step] at h; exact e_st h la_al)
    | (have e := Option.some.inj he; subst e; simp only [x_step] at h; exact e_st h la_an)
    | (have e := Option.some.inj he; subst e; simp only [x_step] at h; exact e_st h la_gf)
    | (have e := Option.some.inj he; subst e; simp only [x_step] at h; exact e_st h la_cg)
    | (have e := Option.some.inj he; subst e; simp only [x_step] at h; exact e_sw h (la_si hw))
    | (have e := Option.some.inj he; subst e; simp only [x_step] at h; exact e_sw h (la_sl hw))
    | skip
  case iinc k n =>
    cases nz with
    | true => cases he
    | false =>
      have e := Option.some.inj he
      subst e
      simp only [x_step] at h
      split at h
      · split at h
        · have e := (Option.some.inj h).symm
          subst e
          exact ⟨rfl, (fun z => by cases z), ⟨[], rfl, rfl, fun k z => by simp at z⟩, rfl, clK.re w⟩
        · cases h
      · cases h
  case ldc j =>
    have e := Option.some.inj he; subst e; simp only [x_step] at h
    refine e_st h (fun st' z => ?_)
    split at z
    · exact la1 ⟨_, (Option.some.inj z).symm⟩
    · cases z
  case getstatic j =>
    have e := Option.some.inj he; subst e; simp only [x_step] at h
    refine e_st h (fun st' z => ?_)
    split at z
    · exact la1 ⟨_, (Option.some.inj z).symm⟩
    · cases z
  case lcmp =>
    have e := Option.some.inj he; subst e; simp only [x_step] at h
    refine e_st h (fun st' z => ?_)
    split at z
    · exact la1 ⟨_, (Option.some.inj z).symm⟩
    · cases z
  case dup =>
    have e := Option.some.inj he; subst e; simp only [x_step] at h
    refine e_st h (fun st' z => ?_)
    split at z
    · split at z
      · exact ⟨[_, _], rfl, (Option.some.inj z).symm, fun k z => by rcases k with _ | _ | k <;> simp at z⟩
      · cases z
    · cases z
  case pop =>
    have e := Option.some.inj he; subst e; simp only [x_step] at h
    refine e_st h (fun st' z => ?_)
    split at z
    · split at z
      · exact ⟨[], rfl, (Option.some.inj z).symm, fun k z => by simp at z⟩
      · cases z
    · cases z
  case dup2 =>
    have e := Option.some.inj he; subst e; simp only [x_step] at h
    refine e_st h (fun st' z => ?_)
    split at z
    · split at z
      · exact ⟨[_, _, _, _], rfl, (Option.some.inj z).symm, fun k z => by rcases k with _ | _ | _ | _ | k <;> simp at z⟩
      · cases z
    · cases z
