/-! FEWER LOCALS: what runs with fewer runs with more -/
def x_sb (l1 l2 : xL) : Prop := l1 ⊆ l2 ∧ x_nd l2
theorem x_lk_sub {l1 l2 : xL} (hp : x_sb l1 l2) (_hn : x_nd l1) {i : Nat} {v : Value} (h : x_lk i l1 = some v) : x_lk i l2 = some v :=
  x_lk_of_mem hp.2 (hp.1 (x_lk_mem h))
theorem x_s1_sub {l1 l2 : xL} (hp : x_sb l1 l2) (i : Nat) (v : Value) : x_sb (x_s1 i v l1) (x_s1 i v l2) := by
  refine ⟨fun q hq => ?_, x_s1_nd hp.2 i v⟩
  unfold x_s1 at hq ⊢
  rcases List.mem_cons.mp hq with h | h
  · rw [h]; exact List.mem_cons_self
  · exact List.mem_cons_of_mem _ (List.mem_filter.mpr ⟨hp.1 (List.mem_filter.mp h).1, (List.mem_filter.mp h).2⟩)
theorem x_s2_sub {l1 l2 : xL} (hp : x_sb l1 l2) (i : Nat) (v : Value) : x_sb (x_s2 i v l1) (x_s2 i v l2) := by
  refine ⟨fun q hq => ?_, x_s2_nd hp.2 i v⟩
  unfold x_s2 at hq ⊢
  rcases List.mem_cons.mp hq with h | h
  · rw [h]; exact List.mem_cons_self
  · exact List.mem_cons_of_mem _ (List.mem_filter.mpr ⟨hp.1 (List.mem_filter.mp h).1, (List.mem_filter.mp h).2⟩)
theorem x_ld_sub {l1 l2 : xL} (hp : x_sb l1 l2) (hn : x_nd l1) {st st' : List Value} {k : Nat} {ok : Value → Bool} (h : x_ld st (x_lk k l1) ok = some st') : x_ld st (x_lk k l2) ok = some st' := by
  obtain ⟨v, h1, h2, rfl⟩ := x_ld_spec h
  rw [x_lk_sub hp hn h1]
  unfold x_ld
  dsimp only
  rw [if_pos h2]
theorem x_sv_sub {l1 l2 : xL} (hp : x_sb l1 l2) (hn : x_nd l1) {pc len i nL : Nat} {ok : Value → Bool} {two : Bool} {st : List Value} {w : xW} {ck cs : Nat} {q : xR} (h : x_sv pc len i nL ok two l1 st w ck cs = some q) : ∃ l', x_sv pc len i nL ok two l2 st w ck cs = some (q.1, l', q.2.2) ∧ x_sb q.2.1 l' ∧ x_nd q.2.1 := by
  obtain ⟨v, r, rfl, h1, h2, rfl⟩ := x_sv_spec h
  refine ⟨if two then x_s2 i v l2 else x_s1 i v l2, ?_, ?_, ?_⟩
  · unfold x_sv
    dsimp only
    rw [if_pos ⟨h1, h2⟩]
  · cases two with
    | true => exact x_s2_sub hp i v
    | false => exact x_s1_sub hp i v
  · cases two with
    | true => exact x_s2_nd hn i v
    | false => exact x_s1_nd hn i v
set_option maxHeartbeats 2000000 in
theorem x_step_sub {G : xG} {nL len pc : Nat} {i : Instr} {l1 l2 : xL} (hp : x_sb l1 l2) (hn : x_nd l1) {st : List Value} {w : xW} {ck cs : Nat} {q : xR} (h : x_step G nL len pc i l1 st w ck cs = some q) : ∃ l', x_step G nL len pc i l2 st w ck cs = some (q.1, l', q.2.2) ∧ x_sb q.2.1 l' ∧ x_nd q.2.1 := by
  have any : ∀ {o2 : Option xR}, (q.2.1 = l1 ∧ o2 = some (q.1, l2, q.2.2)) → ∃ l', o2 = some (q.1, l', q.2.2) ∧ x_sb q.2.1 l' ∧ x_nd q.2.1 := fun h => ⟨l2, h.2, by rw [h.1]; exact hp, by rw [h.1]; exact hn⟩
  cases i
  case new ci => cases h; exact ⟨l2, rfl, hp, hn⟩
  case newarray t =>
    simp only [x_step] at h ⊢
    split at h
    · rename_i a b n r hat
      try rw [hat]
      try dsimp only
      split at h
      · rename_i hc
        cases h
        rw [if_pos hc]
        exact ⟨l2, rfl, hp, hn⟩
      · cases h
    · cases h
  case iinc k n =>
    simp only [x_step] at h ⊢
    split at h
    · rename_i x hk
      rw [x_lk_sub hp hn hk]
      dsimp only
      split at h
      · rename_i hc
        cases h
        rw [if_pos hc]
        exact ⟨_, rfl, x_s1_sub hp _ _, x_s1_nd hn _ _⟩
      · cases h
    · cases h
  case ifCond c off =>
    simp only [x_step] at h ⊢
    split at h
    · exact any (x_jp_any h)
    · cases h
  case if_icmp c off =>
    simp only [x_step] at h ⊢
    split at h
    · exact any (x_jp_any h)
    · cases h
  case tableswitch d lo hi offs =>
    simp only [x_step] at h ⊢
    split at h
    · exact any (x_jp_any h)
    · cases h
  case lookupswitch d ps =>
    simp only [x_step] at h ⊢
    split at h
    · split at h
      · rename_i hc
        rw [if_pos hc]
        exact any (x_jp_any h)
      · cases h
    · cases h
  case iload k => obtain ⟨st', h1, rfl⟩ := x_st_spec h; exact ⟨l2, by show x_st _ _ _ _ _ _ _ = _; rw [x_ld_sub hp hn h1]; rfl, hp, hn⟩
  case iload_n k => obtain ⟨st', h1, rfl⟩ := x_st_spec h; exact ⟨l2, by show x_st _ _ _ _ _ _ _ = _; rw [x_ld_sub hp hn h1]; rfl, hp, hn⟩
  case lload k => obtain ⟨st', h1, rfl⟩ := x_st_spec h; exact ⟨l2, by show x_st _ _ _ _ _ _ _ = _; rw [x_ld_sub hp hn h1]; rfl, hp, hn⟩
  case lload_n k => obtain ⟨st', h1, rfl⟩ := x_st_spec h; exact ⟨l2, by show x_st _ _ _ _ _ _ _ = _; rw [x_ld_sub hp hn h1]; rfl, hp, hn⟩
  case aload k => obtain ⟨st', h1, rfl⟩ := x_st_spec h; exact ⟨l2, by show x_st _ _ _ _ _ _ _ = _; rw [x_ld_sub hp hn h1]; rfl, hp, hn⟩
  case aload_n k => obtain ⟨st', h1, rfl⟩ := x_st_spec h; exact ⟨l2, by show x_st _ _ _ _ _ _ _ = _; rw [x_ld_sub hp hn h1]; rfl, hp, hn⟩
  all_goals first | exact any (x_st_any h) | exact any (x_sw_any h) | exact any (x_jp_any h) | exact x_sv_sub hp hn h | exact absurd h (by simp [x_step])
theorem x_sub {G : xG} {ms : Nat → Option xM} {cd : Nat → Nat → Option (Instr × Nat)} : ∀ (n d y pc : Nat) (l1 l2 : xL) (st : List Value) (w : xW) (ck cs : Nat) (r : Option Value × xW × Nat × Nat), x_sb l1 l2 → x_nd l1 → x_exec G ms cd n d y pc l1 st w ck cs = some r → x_exec G ms cd n d y pc l2 st w ck cs = some r := by
  intro n
  induction n with
  | zero => intro d y pc l1 l2 st w ck cs r _ _ h; cases h
  | succ n ih =>
    intro d y pc l1 l2 st w ck cs r hp hn h
    unfold x_exec at h ⊢
    split at h
    · rename_i i len M hcd hm
      try rw [hcd, hm]
      try dsimp only
      cases hcl : x_cl i with
      | some kj =>
        obtain ⟨kd, j⟩ := kj
        rw [hcl] at h
        dsimp only at h ⊢
        split at h
        · rename_i d1 M' hj
          try rw [hj]
          try dsimp only
          split at h
          · rename_i as rs htk
            try rw [htk]
            try dsimp only
            by_cases hc : x_cat rs ≤ 8 ∧ x_cat as ≤ M'.2.2.1 ∧ x_rcv G kd M'.2.2.2.2.2 as w = true ∧ M'.2.2.2.2.2 ≠ 99
            · rw [if_pos hc] at h
              rw [if_pos hc]
              split at h
              · rename_i v w1 mc1 mz1 hcall
                try rw [hcall]
                exact ih _ _ _ _ _ _ _ _ _ _ hp hn h
              · cases h
            · rw [if_neg hc] at h; cases h
          · cases h
        · cases h
      | none =>
        rw [hcl] at h
        dsimp only at h ⊢
        cases hret : x_ret i M.2.2.2.1 st with
        | some v => rw [hret] at h; exact h
        | none =>
          rw [hret] at h
          dsimp only at h ⊢
          cases hmi : x_mi i st with
          | some sr =>
            obtain ⟨st', rs⟩ := sr
            rw [hmi] at h
            dsimp only at h ⊢
            by_cases hc : x_cat rs ≤ 8 ∧ 1 ≤ d
            · rw [if_pos hc] at h
              rw [if_pos hc]
              exact ih _ _ _ _ _ _ _ _ _ _ hp hn h
            · rw [if_neg hc] at h; cases h
          | none =>
            rw [hmi] at h
            dsimp only at h ⊢
            split at h
            · rename_i q hq
              obtain ⟨l', e1, e2, e3⟩ := x_step_sub hp hn hq
              rw [e1]
              exact ih _ _ _ _ _ _ _ _ _ _ e2 e3 h
            · cases h
    · cases h
/-- fewer locals -/
theorem y_sub {G : xG} {d y pc : Nat} {l1 l2 : xL} {st : List Value} {m : yM} {Q : Option Value → yM → Prop} (hp : x_sb l2 l1) (hn : x_nd l2) (k : yP G d y pc l2 st m Q) : yP G d y pc l1 st m Q := by
  obtain ⟨n, r, m', hx, hq⟩ := k
  exact ⟨n, r, m', fun ck cs => x_sub _ _ _ _ _ _ _ _ _ _ _ hp hn (hx ck cs), hq⟩
/-- at a loop's head: the locals that its row has, in its order -/
theorem y_headS {G : xG} {d y pc : Nat} {l1 l2 : xL} {st : List Value} {m : yM} {Q : Option Value → yM → Prop} (ps ks k1 : List Nat) (h : l2 = ps.filterMap (fun i => l1[i]?)) (hk : l2.map (fun q => q.1) = ks) (hn : ks.Nodup) (hk1 : l1.map (fun q => q.1) = k1) (hn1 : k1.Nodup) (k : yP G d y pc l2 st m Q) : yP G d y pc l1 st m Q := by
  refine y_sub ⟨fun q hq => ?_, by unfold x_nd; rw [hk1]; exact hn1⟩ (by unfold x_nd; rw [hk]; exact hn) k
  rw [h] at hq
  obtain ⟨i, -, hi⟩ := List.mem_filterMap.mp hq
  exact List.mem_of_getElem? hi
