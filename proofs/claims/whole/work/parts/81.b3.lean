/-! THE REFERENCE'S PLACE: a run -/
def spI : Instr → Bool
  | .goto _ => true
  | .ifCond _ _ => true
  | .if_icmp _ _ => true
  | .tableswitch _ _ _ _ => true
  | .lookupswitch _ _ => true
  | .invokestatic _ => true
  | .invokevirtual _ => true
  | .return_ => true
  | .ireturn => true
  | .lreturn => true
  | .areturn => true
  | .putfield _ => true
  | _ => false
theorem ck_pl {y pc len : Nat} {i : Instr} (h : spI i = false) : ckI y pc i len = (match efI (f3 y) len i with
    | some (p, ts, n) => onT y pc (pc + n) (ts ++ (tg y pc).drop p)
    | none => false) := by
  cases i <;> first
    | (cases h; done)
    | rfl
/-- what holds where the code stands -/
def soQ (y t : Nat) (lv : xL) (st : List Value) (w : xW) : Prop := (∀ k : Nat, (tg y t)[k]? = some true → NZa st k) ∧ (f3 y = true → NZl lv) ∧ (fl y t = true → W3 w) ∧ I4 w
theorem so_on {y pc t : Nat} {ts : List Bool} {lv : xL} {st' : List Value} {w w' : xW} (ho : onT y pc t ts = true) (hts : ∀ k : Nat, ts[k]? = some true → NZa st' k) (hz : f3 y = true → NZl lv) (hf : fl y pc = true → W3 w) (hI : I4 w) (e : w'[58]? = w[58]?) (c : clK w w') : soQ y t lv st' w' := by
  unfold onT at ho
  rw [Bool.and_eq_true] at ho
  refine ⟨fun k hk => hts k (leT_at ho.1 k hk), hz, fun z => ?_, hI.e e c⟩
  rw [z] at ho
  have : fl y pc = true := by simpa using ho.2
  exact (hf this).e e
theorem nz_drop {ts : List Bool} {st : List Value} (h : ∀ k : Nat, ts[k]? = some true → NZa st k) (p : Nat) : ∀ k : Nat, (ts.drop p)[k]? = some true → NZa (st.drop p) k := by
  intro k hk
  rw [List.getElem?_drop] at hk
  obtain ⟨x, x1, x2⟩ := h _ hk
  exact ⟨x, by rw [List.getElem?_drop]; exact x1, x2⟩
theorem nz_app {ts us : List Bool} {vs r : List Value} (hl : vs.length = ts.length) (h1 : ∀ k : Nat, ts[k]? = some true → NZa vs k) (h2 : ∀ k : Nat, us[k]? = some true → NZa r k) : ∀ k : Nat, (ts ++ us)[k]? = some true → NZa (vs ++ r) k := by
  intro k hk
  rcases Nat.lt_or_ge k ts.length with y | y
  · rw [List.getElem?_append_left y] at hk
    obtain ⟨x, x1, x2⟩ := h1 k hk
    exact ⟨x, by rw [List.getElem?_append_left (by omega)]; exact x1, x2⟩
  · rw [List.getElem?_append_right y] at hk
    obtain ⟨x, x1, x2⟩ := h2 _ hk
    exact ⟨x, by rw [List.getElem?_append_right (by omega), hl]; exact x1, x2⟩
theorem so_jp {y pc : Nat} {ts : List Bool} {lv : xL} {st : List Value} {w : xW} {ck cs : Nat} {o : Option Nat} {q : xR} (h : x_jp lv st w ck cs o = some q) (ho : ∀ t, o = some t → onT y pc t ts = true) (hts : ∀ k : Nat, ts[k]? = some true → NZa st k) (hz : f3 y = true → NZl lv) (hf : fl y pc = true → W3 w) (hI : I4 w) : soQ y q.1 q.2.1 q.2.2.1 q.2.2.2.1 := by
  unfold x_jp at h
  cases o with
  | none => cases h
  | some t =>
    have e := (Option.some.inj h).symm
    subst e
    exact so_on (ho t rfl) hts hz hf hI rfl (clK.re w)
theorem toT_on {y pc t : Nat} {off : Int} {ts : List Bool} (h : toT y pc off ts = true) (e : x_to pc off = some t) : onT y pc t ts = true := by
  unfold toT at h
  rw [e] at h
  exact h
theorem if_on {y pc t : Nat} {off : Int} {b : Bool} {ts : List Bool} (h1 : toT y pc off ts = true) (h2 : onT y pc (pc + 3) ts = true) (e : x_if pc off b = some t) : onT y pc t ts = true := by
  unfold x_if at e
  cases hx : x_to pc off with
  | none => rw [hx] at e; cases e
  | some u =>
    rw [hx] at e
    have e : (if b = true then u else pc + 3) = t := Option.some.inj e
    split at e
    · rw [← e]; exact toT_on h1 hx
    · rw [← e]; exact h2
theorem f58_set {w : xW} {ci : Nat} {fs : List Value} {j : Nat} {v : Value} (h : w[58]? = some (.inr (ci, fs))) (k : Nat) : f58 (w.set 58 (.inr (ci, fs.set j v))) k = (fs.set j v)[k]? := by
  unfold f58
  rw [List.getElem?_set, if_pos rfl, if_pos (List.getElem?_eq_some_iff.mp h).1]
theorem f58_at {w : xW} {ci : Nat} {fs : List Value} (h : w[58]? = some (.inr (ci, fs))) (k : Nat) : f58 w k = fs[k]? := by
  unfold f58
  rw [h]
theorem so_pf {G : xG} {y pc k : Nat} {lv : xL} {st : List Value} {w : xW} {ck cs : Nat} {q : xR} {len : Nat} (hk : ckI y pc (.putfield k) len = true) (h : x_sw pc 3 lv ck cs (x_pf G w k st) = some q) (hT : ∀ j : Nat, (tg y pc)[j]? = some true → NZa st j) (hz : f3 y = true → NZl lv) (hf : fl y pc = true → W3 w) (hI : I4 w) : soQ y q.1 q.2.1 q.2.2.1 q.2.2.2.1 := by
  unfold x_sw x_pf at h
  split at h
  · rename_i v a r
    split at h
    · rename_i ci fs hwa
      split at h
      · rename_i c
        have e := (Option.some.inj h).symm
        subst e
        have dr := nz_drop hT 2
        have dr : ∀ j : Nat, ((tg y pc).drop 2)[j]? = some true → NZa r j := dr
        have cl : clK w (w.set a (.inr (ci, fs.set (k % 100) v))) := clK.sr hwa
        have cls : ∀ (b : Nat) (gs : List Value), (w.set a (.inr (ci, fs.set (k % 100) v)))[b]? = some (.inr (12, gs)) → b = 58 := fun b gs e => by
          obtain ⟨g2, e⟩ := cl b 12 gs e
          exact hI.2.2 b g2 e
        have hk : (bif Nat.beq k 1203 then ((tg y pc)[0]? == some true) && leT (tg y (pc + 3)) ((tg y pc).drop 2) else bif Nat.beq k 1204 then fl y pc && onT y pc (pc + 3) ((tg y pc).drop 2) else onT y pc (pc + 3) ((tg y pc).drop 2)) = true := hk
        by_cases k3 : k = 1203
        · subst k3
          have hk : (((tg y pc)[0]? == some true) && leT (tg y (pc + 3)) ((tg y pc).drop 2)) = true := hk
          rw [Bool.and_eq_true] at hk
          have ci12 : ci = 12 := c.1
          subst ci12
          have a58 : a = 58 := hI.2.2 a fs hwa
          subst a58
          obtain ⟨x, x1, x2⟩ := hT 0 (by simpa using hk.1)
          have x1 : v = .int x := by simpa using x1
          have w3 : W3 (w.set 58 (.inr (12, fs.set (1203 % 100) v))) := by
            refine ⟨x, ?_, x2⟩
            rw [f58_set hwa, x1]
            have l : 3 < fs.length := c.2.1
            rw [List.getElem?_set, if_pos rfl, if_pos l]
          exact ⟨fun j hj => dr j (leT_at hk.2 j hj), hz, fun _ => w3, ⟨_, by rw [List.getElem?_set, if_pos rfl, if_pos (List.getElem?_eq_some_iff.mp hwa).1]⟩, Or.inl w3, cls⟩
        · have b3 : Nat.beq k 1203 = false := by
            cases hb : Nat.beq k 1203
            · rfl
            · exact absurd (Nat.eq_of_beq_eq_true hb) k3
          rw [b3] at hk
          by_cases k4 : k = 1204
          · subst k4
            have hk : (fl y pc && onT y pc (pc + 3) ((tg y pc).drop 2)) = true := hk
            rw [Bool.and_eq_true] at hk
            have ci12 : ci = 12 := c.1
            subst ci12
            have a58 : a = 58 := hI.2.2 a fs hwa
            subst a58
            have w3 : W3 (w.set 58 (.inr (12, fs.set (1204 % 100) v))) := by
              obtain ⟨x, x1, x2⟩ := hf hk.1
              refine ⟨x, ?_, x2⟩
              rw [f58_at hwa] at x1
              rw [f58_set hwa, List.getElem?_set, if_neg (by decide)]
              exact x1
            have ho := hk.2
            unfold onT at ho
            rw [Bool.and_eq_true] at ho
            exact ⟨fun j hj => dr j (leT_at ho.1 j hj), hz, fun _ => w3, ⟨_, by rw [List.getElem?_set, if_pos rfl, if_pos (List.getElem?_eq_some_iff.mp hwa).1]⟩, Or.inl w3, cls⟩
          · have b4 : Nat.beq k 1204 = false := by
              cases hb : Nat.beq k 1204
              · rfl
              · exact absurd (Nat.eq_of_beq_eq_true hb) k4
            rw [b4] at hk
            have hk : onT y pc (pc + 3) ((tg y pc).drop 2) = true := hk
            by_cases a58 : a = 58
            · subst a58
              obtain ⟨gs, hg⟩ := hI.1
              have ec := hwa
              rw [hg] at ec
              have ec := Sum.inr.inj (Option.some.inj ec)
              have ci12 : 12 = ci := congrArg Prod.fst ec
              subst ci12
              have k100 : 12 = k / 100 := c.1
              have f3e : f58 (w.set 58 (.inr (12, fs.set (k % 100) v))) 3 = f58 w 3 := by
                rw [f58_set hwa, f58_at hwa, List.getElem?_set, if_neg (by omega)]
              have f4e : f58 (w.set 58 (.inr (12, fs.set (k % 100) v))) 4 = f58 w 4 := by
                rw [f58_set hwa, f58_at hwa, List.getElem?_set, if_neg (by omega)]
              have w3 : W3 w → W3 (w.set 58 (.inr (12, fs.set (k % 100) v))) := fun z => by
                unfold W3
                rw [f3e]
                exact z
              unfold onT at hk
              rw [Bool.and_eq_true] at hk
              refine ⟨fun j hj => dr j (leT_at hk.1 j hj), hz, fun z => ?_, ⟨_, by rw [List.getElem?_set, if_pos rfl, if_pos (List.getElem?_eq_some_iff.mp hwa).1]⟩, ?_, cls⟩
              · rw [z] at hk
                have : fl y pc = true := by simpa using hk.2
                exact w3 (hf this)
              · rw [f4e]
                exact hI.2.1.imp w3 id
            · exact so_on hk dr hz hf hI (w58_set a58) cl
      · cases h
    · cases h
  · cases h
theorem st_ok {G : xG} {nL len pc y : Nat} {i : Instr} {lv : xL} {st : List Value} {w : xW} {ck cs : Nat} {q : xR} (hk : ckI y pc i len = true) (h : x_step G nL len pc i lv st w ck cs = some q) (hs : soQ y pc lv st w) : soQ y q.1 q.2.1 q.2.2.1 q.2.2.2.1 := by
  obtain ⟨hT, hz, hf, hI⟩ := hs
  by_cases sp : spI i = true
  · cases i <;> first
      | (cases sp; done)
      | (simp only [x_step] at h; cases h; done)
      | skip
    case goto off =>
      simp only [x_step] at h
      exact so_jp h (fun t e => toT_on hk e) hT hz hf hI
    case ifCond c off =>
      simp only [x_step] at h
      have hk : (toT y pc off ((tg y pc).drop 1) && onT y pc (pc + 3) ((tg y pc).drop 1)) = true := hk
      rw [Bool.and_eq_true] at hk
      split at h
      · exact so_jp h (fun t e => if_on hk.1 hk.2 e) (nz_drop hT 1) hz hf hI
      · cases h
    case if_icmp c off =>
      simp only [x_step] at h
      have hk : (toT y pc off ((tg y pc).drop 2) && onT y pc (pc + 3) ((tg y pc).drop 2)) = true := hk
      rw [Bool.and_eq_true] at hk
      split at h
      · exact so_jp h (fun t e => if_on hk.1 hk.2 e) (nz_drop hT 2) hz hf hI
      · cases h
    case tableswitch d lo hi offs =>
      simp only [x_step] at h
      have hk : (toT y pc d [] && offs.toList.all (fun o => toT y pc o [])) = true := hk
      rw [Bool.and_eq_true] at hk
      split at h
      · refine so_jp (ts := []) h (fun t e => ?_) (fun k z => by simp at z) hz hf hI
        split at e
        · exact toT_on hk.1 e
        · split at e
          · rename_i off ho
            have mem : off ∈ offs.toList := by
              rw [← Array.getElem?_toList] at ho
              exact List.mem_of_getElem? ho
            exact toT_on (List.all_eq_true.mp hk.2 off mem) e
          · cases e
      · cases h
    case lookupswitch d ps =>
      simp only [x_step] at h
      have hk : noT y = true := hk
      split at h
      · split at h
        · unfold x_jp at h
          rename_i x r _ 
          cases hx : x_to pc (Op.lookupswitch.offset ps.toList d x.toInt) with
          | none => rw [hx] at h; cases h
          | some t =>
            rw [hx] at h
            have e := (Option.some.inj h).symm
            subst e
            obtain ⟨n1, n2⟩ := noT_tg hk t
            exact ⟨(fun k z => by rw [n1] at z; simp at z), hz, (fun z => by rw [n2] at z; cases z), hI⟩
        · cases h
      · cases h
    case putfield k =>
      simp only [x_step] at h
      exact so_pf hk h hT hz hf hI
  · have sp : spI i = false := by simpa using sp
    rw [ck_pl sp] at hk
    cases he : efI (f3 y) len i with
    | none => rw [he] at hk; cases hk
    | some r =>
      rw [he] at hk
      obtain ⟨e1, e2, ⟨vs, v1, v2, v3⟩, e4, e5⟩ := ef_ok he h hz hI.1
      rw [e1, v2]
      refine so_on hk (nz_app v1 v3 (nz_drop hT _)) (fun z => ?_) hf hI e4 e5
      rw [e2 z]
      exact hz z
