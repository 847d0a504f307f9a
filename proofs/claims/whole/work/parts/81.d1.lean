/-! BYTES: what a byte array holds are bytes -/
abbrev iBy (x : Int32) : Prop := x.toInt8.toInt32 = x
def bW (w : xW) : Prop := ∀ (k n : Nat) (f : Nat → Int32), w[k]? = some (.inl (2, n, .inl f)) → ∀ i, iBy (f i)
theorem iBy_0 : iBy 0 := by decide
theorem iBy_n (x : Int32) : iBy (vp_nar .byte x) := by
  show (x.toInt8.toInt32).toInt8.toInt32 = x.toInt8.toInt32
  simp
theorem bW.set {w : xW} (h : bW w) (k : Nat) {e : xE} (he : ∀ (n : Nat) (f : Nat → Int32), e = .inl (2, n, .inl f) → ∀ i, iBy (f i)) : bW (w.set k e) := by
  intro a n f ha
  rw [List.getElem?_set] at ha
  split at ha
  · split at ha
    · exact he n f (Option.some.inj ha)
    · cases ha
  · exact h a n f ha
theorem bW.app {w : xW} (h : bW w) {e : xE} (he : ∀ (n : Nat) (f : Nat → Int32), e = .inl (2, n, .inl f) → ∀ i, iBy (f i)) : bW (w ++ [e]) := by
  intro a n f ha
  rcases Nat.lt_or_ge a w.length with y | y
  · rw [List.getElem?_append_left y] at ha
    exact h a n f ha
  · rw [List.getElem?_append_right y] at ha
    cases hx : a - w.length with
    | zero =>
      rw [hx] at ha
      exact he n f (Option.some.inj ha)
    | succ j =>
      rw [hx] at ha
      simp at ha
theorem b_si {b : Bool} {w : xW} {st : List Value} (h : bW w) : ∀ u, x_si b w st = some u → bW u.2 := by
  intro u hu
  unfold x_si at hu
  split at hu
  · split at hu
    · split at hu
      · rw [← Option.some.inj hu]
        exact h.set _ (fun n f e => by cases e)
      · cases hu
    · rename_i k _ n f hk
      split at hu
      · rw [← Option.some.inj hu]
        refine h.set _ (fun n' f' e => ?_)
        have e := Sum.inl.inj e
        have e := (Prod.mk.inj e).2
        have e := (Prod.mk.inj e).2
        have e := Sum.inl.inj e
        intro j
        rw [← e]
        unfold upd
        split
        · exact iBy_n _
        · exact h _ n f hk j
      · cases hu
    · split at hu
      · rw [← Option.some.inj hu]
        exact h.set _ (fun n f e => by cases e)
      · cases hu
    · cases hu
  · cases hu
theorem b_sl {w : xW} {st : List Value} (h : bW w) : ∀ u, x_sl w st = some u → bW u.2 := by
  intro u hu
  unfold x_sl at hu
  split at hu
  · split at hu
    · split at hu
      · rw [← Option.some.inj hu]
        exact h.set _ (fun n f e => by cases e)
      · cases hu
    · cases hu
  · cases hu
theorem b_pf {G : xG} {k : Nat} {w : xW} {st : List Value} (h : bW w) : ∀ u, x_pf G w k st = some u → bW u.2 := by
  intro u hu
  unfold x_pf at hu
  split at hu
  · split at hu
    · split at hu
      · rw [← Option.some.inj hu]
        exact h.set _ (fun n f e => by cases e)
      · cases hu
    · cases hu
  · cases hu
theorem b_st {pc n : Nat} {lv : xL} {w : xW} {ck cs : Nat} {o : Option (List Value)} {q : xR} (h : x_st pc n lv w ck cs o = some q) : q.2.2.2.1 = w := by
  unfold x_st at h
  cases o with
  | none => cases h
  | some st' => rw [← Option.some.inj h]
theorem b_sv {pc n i nL : Nat} {ok : Value → Bool} {two : Bool} {lv : xL} {w : xW} {ck cs : Nat} {q : xR} {st : List Value} (h : x_sv pc n i nL ok two lv st w ck cs = some q) : q.2.2.2.1 = w := by
  unfold x_sv at h
  cases st with
  | nil => cases h
  | cons v r =>
    dsimp only at h
    by_cases c : ok v = true ∧ (if two = true then i + 1 else i) < nL
    · rw [if_pos c] at h
      rw [← Option.some.inj h]
    · rw [if_neg c] at h
      cases h
theorem b_jp {lv : xL} {st : List Value} {w : xW} {ck cs : Nat} {o : Option Nat} {q : xR} (h : x_jp lv st w ck cs o = some q) : q.2.2.2.1 = w := by
  unfold x_jp at h
  cases o with
  | none => cases h
  | some t => rw [← Option.some.inj h]
theorem b_sw {pc n : Nat} {lv : xL} {ck cs : Nat} {o : Option (List Value × xW)} {q : xR} (h : x_sw pc n lv ck cs o = some q) (ho : ∀ u, o = some u → bW u.2) : bW q.2.2.2.1 := by
  unfold x_sw at h
  cases o with
  | none => cases h
  | some u => rw [← Option.some.inj h]; exact ho u rfl
set_option maxHeartbeats 4000000 in
theorem b_step {G : xG} {nL len pc : Nat} {i : Instr} {lv : xL} {st : List Value} {w : xW} {ck cs : Nat} {q : xR} (h : x_step G nL len pc i lv st w ck cs = some q) (hw : bW w) : bW q.2.2.2.1 := by
  cases i <;> first
    | (simp only [x_step] at h; cases h; done)
    | (simp only [x_step] at h; rw [b_st h]; exact hw)
    | (simp only [x_step] at h; rw [b_sv h]; exact hw)
    | (simp only [x_step] at h; rw [b_jp h]; exact hw)
    | (simp only [x_step] at h; exact b_sw h (b_si hw))
    | (simp only [x_step] at h; exact b_sw h (b_sl hw))
    | (simp only [x_step] at h; exact b_sw h (b_pf hw))
    | skip
  case iinc k n =>
    simp only [x_step] at h
    split at h
    · split at h
      · rw [← Option.some.inj h]; exact hw
      · cases h
    · cases h
  case ifCond c off =>
    simp only [x_step] at h
    split at h
    · rw [b_jp h]; exact hw
    · cases h
  case if_icmp c off =>
    simp only [x_step] at h
    split at h
    · rw [b_jp h]; exact hw
    · cases h
  case tableswitch d lo hi offs =>
    simp only [x_step] at h
    split at h
    · rw [b_jp h]; exact hw
    · cases h
  case lookupswitch d ps =>
    simp only [x_step] at h
    split at h
    · split at h
      · rw [b_jp h]; exact hw
      · cases h
    · cases h
  case new ci =>
    simp only [x_step] at h
    rw [← Option.some.inj h]
    exact hw.app (fun n f e => by cases e)
  case newarray t =>
    simp only [x_step] at h
    split at h
    · split at h
      · rw [← Option.some.inj h]
        refine hw.app (fun n f e => ?_)
        have e := Sum.inl.inj e
        have e1 := (Prod.mk.inj e).1
        have e2 := (Prod.mk.inj e).2
        rw [e1] at e2
        have e3 := (Prod.mk.inj e2).2
        have e4 := Sum.inl.inj e3
        intro i
        rw [← e4]
        exact iBy_0
      · cases h
    · cases h
theorem b_exec {G : xG} {ms : Nat → Option xM} {cd : Nat → Nat → Option (Instr × Nat)} : ∀ (n d y pc : Nat) (lv : xL) (st : List Value) (w : xW) (ck cs : Nat) (v : Option Value) (w' : xW) (a b : Nat), x_exec G ms cd n d y pc lv st w ck cs = some (v, w', a, b) → bW w → bW w' := by
  intro n
  induction n with
  | zero => intro d y pc lv st w ck cs v w' a b h; cases h
  | succ n ih =>
    intro d y pc lv st w ck cs v w' a b h hw
    unfold x_exec at h
    split at h
    · split at h
      · split at h
        · split at h
          · split at h
            · split at h
              · rename_i v1 w1 mc mz hx
                exact ih _ _ _ _ _ _ _ _ _ _ _ _ h (ih _ _ _ _ _ _ _ _ _ _ _ _ hx hw)
              · cases h
            · cases h
          · cases h
        · cases h
      · split at h
        · have e := Option.some.inj h
          have e2 : w = w' := congrArg (fun z => z.2.1) e
          rw [← e2]
          exact hw
        · split at h
          · split at h
            · exact ih _ _ _ _ _ _ _ _ _ _ _ _ h hw
            · cases h
          · split at h
            · rename_i q hq
              exact ih _ _ _ _ _ _ _ _ _ _ _ _ h (b_step hq hw)
            · cases h
    · cases h
/-- the class's text holds bytes -/
def BY1 (m : yM) : Prop := bW (y_w m)
theorem BY1.t {m : yM} (h : BY1 m) (i : Nat) : iBy (m.1 1 i) := by
  have e : (y_w m)[1]? = some (y_c m 1 (.inl (2, 8192))) := y_get rfl
  exact h 1 8192 (m.1 1) e i
theorem yC.by {G : xG} {d j : Nat} {as : List Value} {m : yM} {Q : Option Value → yM → Prop} (hb : BY1 m) (h : yC G d j as m Q) : yC G d j as m (fun r m' => Q r m' ∧ BY1 m') := by
  obtain ⟨n, r, m', hx, hq⟩ := h
  exact ⟨n, r, m', hx, hq, b_exec n d j 0 (lv_args 0 as) [] (y_w m) 0 0 r (y_w m') 0 0 (hx 0 0) hb⟩
theorem opOk.by {xs : List Int32} {D : Nat} {I I' : yM → Prop} {jx jm : Nat} {as : List Value} (h : opOk xs D I I' jx jm as) : opOk xs D (fun m => I m ∧ BY1 m) (fun m => I' m ∧ BY1 m) jx jm as := by
  rintro m ⟨h1, h2⟩
  refine yC.mono (Nat.le_refl _) (fun r m1 q => ?_) (yC.by h2 (h m h1))
  obtain ⟨⟨v, e, q⟩, b1⟩ := q
  exact ⟨v, e, yC.mono (Nat.le_refl _) (fun r2 m2 q2 => ⟨q2.1.1, q2.1.2, q2.2⟩) (yC.by b1 q)⟩
theorem BY1_0 : BY1 y_m0 := by
  intro k n f e
  have e0 : (y_w y_m0)[k]? = (ysh[k]?).map (y_c y_m0 (0 + k)) := y_wl_get y_m0 ysh 0 k
  rw [e0] at e
  cases hs : ysh[k]? with
  | none => rw [hs] at e; cases e
  | some s =>
    rw [hs] at e
    have e := Option.some.inj e
    cases s with
    | inr p => cases e
    | inl p =>
      have e := Sum.inl.inj e
      have e1 : p.1 = 2 := (Prod.mk.inj e).1
      have e2 := (Prod.mk.inj (Prod.mk.inj e).2).2
      rw [if_neg (by rw [e1]; decide)] at e2
      have e3 := Sum.inl.inj e2
      intro i
      rw [← e3]
      unfold y_m0
      dsimp only
      split
      · show iBy (if i = 11 then -1 else 0)
        split <;> decide
      · split
        · show iBy (if i = 4 then -1 else 0)
          split <;> decide
        · exact iBy_0
