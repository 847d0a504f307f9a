/-! the order of the locals' list says nothing -/
def x_nd (lv : xL) : Prop := (lv.map (fun q => q.1)).Nodup
theorem x_lk_mem {i : Nat} {v : Value} : ∀ {lv : xL}, x_lk i lv = some v → (i, v) ∈ lv
  | [], h => by cases h
  | q :: l, h => by
    unfold x_lk at h
    by_cases hq : q.1 = i
    · rw [if_pos hq] at h
      cases h
      subst hq
      exact List.mem_cons_self
    · rw [if_neg hq] at h
      exact List.mem_cons_of_mem _ (x_lk_mem h)
theorem x_lk_of_mem {i : Nat} {v : Value} : ∀ {lv : xL}, x_nd lv → (i, v) ∈ lv → x_lk i lv = some v
  | [], _, h => by cases h
  | q :: l, hn, h => by
    unfold x_nd at hn
    rw [List.map_cons, List.nodup_cons] at hn
    unfold x_lk
    rcases List.mem_cons.mp h with h | h
    · subst h
      rw [if_pos rfl]
    · have hne : q.1 ≠ i := fun e => hn.1 (List.mem_map.mpr ⟨(i, v), h, e.symm⟩)
      rw [if_neg hne]
      exact x_lk_of_mem hn.2 h
theorem x_lk_perm {l1 l2 : xL} (hp : l1.Perm l2) (hn : x_nd l1) {i : Nat} {v : Value} (h : x_lk i l1 = some v) : x_lk i l2 = some v :=
  x_lk_of_mem ((hp.map (fun q : Nat × Value => q.1)).nodup_iff.mp hn) (hp.mem_iff.mp (x_lk_mem h))
theorem x_s1_perm {l1 l2 : xL} (hp : l1.Perm l2) (i : Nat) (v : Value) : (x_s1 i v l1).Perm (x_s1 i v l2) := (hp.filter _).cons _
theorem x_s2_perm {l1 l2 : xL} (hp : l1.Perm l2) (i : Nat) (v : Value) : (x_s2 i v l1).Perm (x_s2 i v l2) := (hp.filter _).cons _
theorem x_s1_nd {lv : xL} (hn : x_nd lv) (i : Nat) (v : Value) : x_nd (x_s1 i v lv) := by
  unfold x_nd x_s1
  rw [List.map_cons, List.nodup_cons]
  refine ⟨fun h => ?_, hn.sublist (List.filter_sublist.map _)⟩
  obtain ⟨q, hq, e⟩ := List.mem_map.mp h
  have h2 := (List.mem_filter.mp hq).2
  dsimp only at e
  simp [e] at h2
theorem x_s2_nd {lv : xL} (hn : x_nd lv) (i : Nat) (v : Value) : x_nd (x_s2 i v lv) := by
  unfold x_nd x_s2
  rw [List.map_cons, List.nodup_cons]
  refine ⟨fun h => ?_, hn.sublist (List.filter_sublist.map _)⟩
  obtain ⟨q, hq, e⟩ := List.mem_map.mp h
  have h2 := (List.mem_filter.mp hq).2
  dsimp only at e
  simp [e] at h2
theorem x_st_any {pc len : Nat} {l1 l2 : xL} {w : xW} {ck cs : Nat} {o : Option (List Value)} {q : xR} (h : x_st pc len l1 w ck cs o = some q) : q.2.1 = l1 ∧ x_st pc len l2 w ck cs o = some (q.1, l2, q.2.2) := by
  obtain ⟨st', rfl, rfl⟩ := x_st_spec h
  exact ⟨rfl, rfl⟩
theorem x_sw_any {pc len : Nat} {l1 l2 : xL} {ck cs : Nat} {o : Option (List Value × xW)} {q : xR} (h : x_sw pc len l1 ck cs o = some q) : q.2.1 = l1 ∧ x_sw pc len l2 ck cs o = some (q.1, l2, q.2.2) := by
  obtain ⟨st', w', rfl, rfl⟩ := x_sw_spec h
  exact ⟨rfl, rfl⟩
theorem x_jp_any {l1 l2 : xL} {st : List Value} {w : xW} {ck cs : Nat} {o : Option Nat} {q : xR} (h : x_jp l1 st w ck cs o = some q) : q.2.1 = l1 ∧ x_jp l2 st w ck cs o = some (q.1, l2, q.2.2) := by
  obtain ⟨t, rfl, rfl⟩ := x_jp_spec h
  exact ⟨rfl, rfl⟩
theorem x_ld_perm {l1 l2 : xL} (hp : l1.Perm l2) (hn : x_nd l1) {st st' : List Value} {k : Nat} {ok : Value → Bool} (h : x_ld st (x_lk k l1) ok = some st') : x_ld st (x_lk k l2) ok = some st' := by
  obtain ⟨v, h1, h2, rfl⟩ := x_ld_spec h
  rw [x_lk_perm hp hn h1]
  unfold x_ld
  dsimp only
  rw [if_pos h2]
theorem x_sv_perm {l1 l2 : xL} (hp : l1.Perm l2) (hn : x_nd l1) {pc len i nL : Nat} {ok : Value → Bool} {two : Bool} {st : List Value} {w : xW} {ck cs : Nat} {q : xR} (h : x_sv pc len i nL ok two l1 st w ck cs = some q) : ∃ l', x_sv pc len i nL ok two l2 st w ck cs = some (q.1, l', q.2.2) ∧ q.2.1.Perm l' ∧ x_nd q.2.1 := by
  obtain ⟨v, r, rfl, h1, h2, rfl⟩ := x_sv_spec h
  refine ⟨if two then x_s2 i v l2 else x_s1 i v l2, ?_, ?_, ?_⟩
  · unfold x_sv
    dsimp only
    rw [if_pos ⟨h1, h2⟩]
  · cases two with
    | true => exact x_s2_perm hp i v
    | false => exact x_s1_perm hp i v
  · cases two with
    | true => exact x_s2_nd hn i v
    | false => exact x_s1_nd hn i v
set_option maxHeartbeats 2000000 in
theorem x_step_perm {G : xG} {nL len pc : Nat} {i : Instr} {l1 l2 : xL} (hp : l1.Perm l2) (hn : x_nd l1) {st : List Value} {w : xW} {ck cs : Nat} {q : xR} (h : x_step G nL len pc i l1 st w ck cs = some q) : ∃ l', x_step G nL len pc i l2 st w ck cs = some (q.1, l', q.2.2) ∧ q.2.1.Perm l' ∧ x_nd q.2.1 := by
  have any : ∀ {o2 : Option xR}, (q.2.1 = l1 ∧ o2 = some (q.1, l2, q.2.2)) → ∃ l', o2 = some (q.1, l', q.2.2) ∧ q.2.1.Perm l' ∧ x_nd q.2.1 := fun h => ⟨l2, h.2, by rw [h.1]; exact hp, by rw [h.1]; exact hn⟩
  cases i
  case new ci => cases h; exact ⟨l2, rfl, hp, hn⟩
  case newarray t =>
    simp only [x_step] at h ⊢
    split at h
    · rename_i a b n r hat
      try rw [hat]
      try dsimp only
      split at h
      · rename_i hc
        cases h
        rw [if_pos hc]
        exact ⟨l2, rfl, hp, hn⟩
      · cases h
    · cases h
  case iinc k n =>
    simp only [x_step] at h ⊢
    split at h
    · rename_i x hk
      rw [x_lk_perm hp hn hk]
      dsimp only
      split at h
      · rename_i hc
        cases h
        rw [if_pos hc]
        exact ⟨_, rfl, x_s1_perm hp _ _, x_s1_nd hn _ _⟩
      · cases h
    · cases h
  case ifCond c off =>
    simp only [x_step] at h ⊢
    split at h
    · exact any (x_jp_any h)
    · cases h
  case if_icmp c off =>
    simp only [x_step] at h ⊢
    split at h
    · exact any (x_jp_any h)
    · cases h
  case tableswitch d lo hi offs =>
    simp only [x_step] at h ⊢
    split at h
    · exact any (x_jp_any h)
    · cases h
  case lookupswitch d ps =>
    simp only [x_step] at h ⊢
    split at h
    · split at h
      · rename_i hc
        rw [if_pos hc]
        exact any (x_jp_any h)
      · cases h
    · cases h
  case iload k => obtain ⟨st', h1, rfl⟩ := x_st_spec h; exact ⟨l2, by show x_st _ _ _ _ _ _ _ = _; rw [x_ld_perm hp hn h1]; rfl, hp, hn⟩
  case iload_n k => obtain ⟨st', h1, rfl⟩ := x_st_spec h; exact ⟨l2, by show x_st _ _ _ _ _ _ _ = _; rw [x_ld_perm hp hn h1]; rfl, hp, hn⟩
  case lload k => obtain ⟨st', h1, rfl⟩ := x_st_spec h; exact ⟨l2, by show x_st _ _ _ _ _ _ _ = _; rw [x_ld_perm hp hn h1]; rfl, hp, hn⟩
  case lload_n k => obtain ⟨st', h1, rfl⟩ := x_st_spec h; exact ⟨l2, by show x_st _ _ _ _ _ _ _ = _; rw [x_ld_perm hp hn h1]; rfl, hp, hn⟩
  case aload k => obtain ⟨st', h1, rfl⟩ := x_st_spec h; exact ⟨l2, by show x_st _ _ _ _ _ _ _ = _; rw [x_ld_perm hp hn h1]; rfl, hp, hn⟩
  case aload_n k => obtain ⟨st', h1, rfl⟩ := x_st_spec h; exact ⟨l2, by show x_st _ _ _ _ _ _ _ = _; rw [x_ld_perm hp hn h1]; rfl, hp, hn⟩
  all_goals first | exact any (x_st_any h) | exact any (x_sw_any h) | exact any (x_jp_any h) | exact x_sv_perm hp hn h | exact absurd h (by simp [x_step])
theorem x_perm {G : xG} {ms : Nat → Option xM} {cd : Nat → Nat → Option (Instr × Nat)} : ∀ (n d y pc : Nat) (l1 l2 : xL) (st : List Value) (w : xW) (ck cs : Nat) (r : Option Value × xW × Nat × Nat), l1.Perm l2 → x_nd l1 → x_exec G ms cd n d y pc l1 st w ck cs = some r → x_exec G ms cd n d y pc l2 st w ck cs = some r := by
  intro n
  induction n with
  | zero => intro d y pc l1 l2 st w ck cs r _ _ h; cases h
  | succ n ih =>
    intro d y pc l1 l2 st w ck cs r hp hn h
    unfold x_exec at h ⊢
    split at h
    · rename_i i len M hcd hm
      try rw [hcd, hm]
      try dsimp only
      cases hcl : x_cl i with
      | some kj =>
        obtain ⟨kd, j⟩ := kj
        rw [hcl] at h
        dsimp only at h ⊢
        split at h
        · rename_i d1 M' hj
          try rw [hj]
          try dsimp only
          split at h
          · rename_i as rs htk
            try rw [htk]
            try dsimp only
            by_cases hc : x_cat rs ≤ 8 ∧ x_cat as ≤ M'.2.2.1 ∧ x_rcv G kd M'.2.2.2.2.2 as w = true ∧ M'.2.2.2.2.2 ≠ 99
            · rw [if_pos hc] at h
              rw [if_pos hc]
              split at h
              · rename_i v w1 mc1 mz1 hcall
                try rw [hcall]
                exact ih _ _ _ _ _ _ _ _ _ _ hp hn h
              · cases h
            · rw [if_neg hc] at h; cases h
          · cases h
        · cases h
      | none =>
        rw [hcl] at h
        dsimp only at h ⊢
        cases hret : x_ret i M.2.2.2.1 st with
        | some v => rw [hret] at h; exact h
        | none =>
          rw [hret] at h
          dsimp only at h ⊢
          cases hmi : x_mi i st with
          | some sr =>
            obtain ⟨st', rs⟩ := sr
            rw [hmi] at h
            dsimp only at h ⊢
            by_cases hc : x_cat rs ≤ 8 ∧ 1 ≤ d
            · rw [if_pos hc] at h
              rw [if_pos hc]
              exact ih _ _ _ _ _ _ _ _ _ _ hp hn h
            · rw [if_neg hc] at h; cases h
          | none =>
            rw [hmi] at h
            dsimp only at h ⊢
            split at h
            · rename_i q hq
              obtain ⟨l', e1, e2, e3⟩ := x_step_perm hp hn hq
              rw [e1]
              exact ih _ _ _ _ _ _ _ _ _ _ e2 e3 h
            · cases h
    · cases h
/-- the locals in another order: ps says which -/
theorem y_perm {G : xG} {d y pc : Nat} {l1 l2 : xL} {st : List Value} {m : yM} {Q : Option Value → yM → Prop} (hp : l2.Perm l1) (hn : x_nd l2) (k : yP G d y pc l2 st m Q) : yP G d y pc l1 st m Q := by
  obtain ⟨n, r, m', hx, hq⟩ := k
  exact ⟨n, r, m', fun ck cs => x_perm _ _ _ _ _ _ _ _ _ _ _ hp hn (hx ck cs), hq⟩
