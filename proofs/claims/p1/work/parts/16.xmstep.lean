set_option maxHeartbeats 4000000 in
set_option maxRecDepth 20000 in
/-- every step that is no call and no return -/
theorem x_step_ok {p : Program} {l : Launch} {e : Env} {R : Room} {s : State} {m : MethodId} {args : Array Value} {below : List Frame} {meth : Method} {c : Code} {Q : State → Prop}
    {xt : List Cond} {G : xG} {cl : List vw_C} {ms : Nat → Option xM} {D : va_G} {kA : Nat → ClassId} {z : Nat} {ac : Nat → Value} {M : xM} (hO : x_Ok xt G cl ac) (hF : x_Fx xt G cl D kA z ac M p s m args meth c)
    {pc len : Nat} {i : Instr} {lv : xL} {st : List Value} {w : xW} {ck cs : Nat} {q : xR} (h : x_step G M.2.2.1 len pc i lv st w ck cs = some q) (hrel : x_rel xt G cl ms M.1 M.2.1 pc len i)
    (hrc : q.2.2.2.2.1 ≤ R.cells) (hrs : q.2.2.2.2.2 ≤ R.slots) {H : Heap} {locs : List Loc} {ls : Array Slot} (hl : lv_has ls M.2.2.1 (x_lm z ac lv)) (hP : va_P D cl (x_w z ac kA 0 w) H) (hz : H.size = z + w.length) (hS : va_S (x_A z) s.heap H locs)
    (kk : ∀ (H' : Heap) (locs' : List Loc) (ls' : Array Slot), lv_has ls' M.2.2.1 (x_lm z ac q.2.1) → va_P D cl (x_w z ac kA 0 q.2.2.2.1) H' → H'.size = z + q.2.2.2.1.length → va_S (x_A z) s.heap H' locs' → W p l e R s m args below meth c H' locs' q.2.2.2.2.1 q.2.2.2.2.2 Q (F0 m q.1 ls' (q.2.2.1.map (x_v z ac)))) :
    W p l e R s m args below meth c H locs ck cs Q (F0 m pc ls (st.map (x_v z ac))) := by
  obtain ⟨hcl, hac, hac1, hnst⟩ := hO
  obtain ⟨hx, hb, hml, hown, hts, hr, hlocks, hin, hK, hCs, hzs⟩ := hF
  have hD : va_D (x_A z) (x_w z ac kA 0 w) := x_wD z ac kA w
  cases i
  case iadd =>
    obtain ⟨st', h0, rfl⟩ := x_st_spec h
    clear h
    have h := h0
    obtain ⟨x, y, r, v, rfl, hf, rfl⟩ := x_ii_spec h
    cases hf
    exact lv_iadd hx hb hrel (kk H locs ls hl hP hz hS)
  case isub =>
    obtain ⟨st', h0, rfl⟩ := x_st_spec h
    clear h
    have h := h0
    obtain ⟨x, y, r, v, rfl, hf, rfl⟩ := x_ii_spec h
    cases hf
    exact lv_isub hx hb hrel (kk H locs ls hl hP hz hS)
  case imul =>
    obtain ⟨st', h0, rfl⟩ := x_st_spec h
    clear h
    have h := h0
    obtain ⟨x, y, r, v, rfl, hf, rfl⟩ := x_ii_spec h
    cases hf
    exact lv_imul hx hb hrel (kk H locs ls hl hP hz hS)
  case iand =>
    obtain ⟨st', h0, rfl⟩ := x_st_spec h
    clear h
    have h := h0
    obtain ⟨x, y, r, v, rfl, hf, rfl⟩ := x_ii_spec h
    cases hf
    exact lv_iand hx hb hrel (kk H locs ls hl hP hz hS)
  case ior =>
    obtain ⟨st', h0, rfl⟩ := x_st_spec h
    clear h
    have h := h0
    obtain ⟨x, y, r, v, rfl, hf, rfl⟩ := x_ii_spec h
    cases hf
    exact lv_ior hx hb hrel (kk H locs ls hl hP hz hS)
  case ixor =>
    obtain ⟨st', h0, rfl⟩ := x_st_spec h
    clear h
    have h := h0
    obtain ⟨x, y, r, v, rfl, hf, rfl⟩ := x_ii_spec h
    cases hf
    exact lv_ixor hx hb hrel (kk H locs ls hl hP hz hS)
  case ishl =>
    obtain ⟨st', h0, rfl⟩ := x_st_spec h
    clear h
    have h := h0
    obtain ⟨x, y, r, v, rfl, hf, rfl⟩ := x_ii_spec h
    cases hf
    exact lv_ishl hx hb hrel (kk H locs ls hl hP hz hS)
  case ishr =>
    obtain ⟨st', h0, rfl⟩ := x_st_spec h
    clear h
    have h := h0
    obtain ⟨x, y, r, v, rfl, hf, rfl⟩ := x_ii_spec h
    cases hf
    exact lv_ishr hx hb hrel (kk H locs ls hl hP hz hS)
  case iushr =>
    obtain ⟨st', h0, rfl⟩ := x_st_spec h
    clear h
    have h := h0
    obtain ⟨x, y, r, v, rfl, hf, rfl⟩ := x_ii_spec h
    cases hf
    exact lv_iushr hx hb hrel rfl (kk H locs ls hl hP hz hS)
  case idiv =>
    obtain ⟨st', h0, rfl⟩ := x_st_spec h
    clear h
    have h := h0
    obtain ⟨x, y, r, v, rfl, hf, rfl⟩ := x_ii_spec h
    by_cases hy : y = 0
    · simp [hy] at hf
    · simp only [hy, if_false] at hf
      cases hf
      exact lv_idiv hx hb hrel hy (kk H locs ls hl hP hz hS)
  case irem =>
    obtain ⟨st', h0, rfl⟩ := x_st_spec h
    clear h
    have h := h0
    obtain ⟨x, y, r, v, rfl, hf, rfl⟩ := x_ii_spec h
    by_cases hy : y = 0
    · simp [hy] at hf
    · simp only [hy, if_false] at hf
      cases hf
      exact lv_irem hx hb hrel hy (kk H locs ls hl hP hz hS)
  case ladd =>
    obtain ⟨st', h0, rfl⟩ := x_st_spec h
    clear h
    have h := h0
    obtain ⟨x, y, r, v, rfl, hf, rfl⟩ := x_ll_spec h
    cases hf
    exact lv_ladd hx hb hrel (kk H locs ls hl hP hz hS)
  case lsub =>
    obtain ⟨st', h0, rfl⟩ := x_st_spec h
    clear h
    have h := h0
    obtain ⟨x, y, r, v, rfl, hf, rfl⟩ := x_ll_spec h
    cases hf
    exact lv_lsub hx hb hrel (kk H locs ls hl hP hz hS)
  case lmul =>
    obtain ⟨st', h0, rfl⟩ := x_st_spec h
    clear h
    have h := h0
    obtain ⟨x, y, r, v, rfl, hf, rfl⟩ := x_ll_spec h
    cases hf
    exact lv_lmul hx hb hrel (kk H locs ls hl hP hz hS)
  case ldiv =>
    obtain ⟨st', h0, rfl⟩ := x_st_spec h
    clear h
    have h := h0
    obtain ⟨x, y, r, v, rfl, hf, rfl⟩ := x_ll_spec h
    by_cases hy : y = 0
    · simp [hy] at hf
    · simp only [hy, if_false] at hf
      cases hf
      exact lv_ldiv hx hb hrel hy (kk H locs ls hl hP hz hS)
  case ineg =>
    obtain ⟨st', h0, rfl⟩ := x_st_spec h
    clear h
    have h := h0
    obtain ⟨x, r, rfl, rfl⟩ := x_i1_spec h
    exact lv_ineg hx hb hrel (kk H locs ls hl hP hz hS)
  case i2l =>
    obtain ⟨st', h0, rfl⟩ := x_st_spec h
    clear h
    have h := h0
    obtain ⟨x, r, rfl, rfl⟩ := x_i1_spec h
    exact lv_i2l hx hb hrel rfl (kk H locs ls hl hP hz hS)
  case i2b =>
    obtain ⟨st', h0, rfl⟩ := x_st_spec h
    clear h
    have h := h0
    obtain ⟨x, r, rfl, rfl⟩ := x_i1_spec h
    exact lv_i2b hx hb hrel rfl (kk H locs ls hl hP hz hS)
  case i2s =>
    obtain ⟨st', h0, rfl⟩ := x_st_spec h
    clear h
    have h := h0
    obtain ⟨x, r, rfl, rfl⟩ := x_i1_spec h
    exact lv_i2s hx hb hrel rfl (kk H locs ls hl hP hz hS)
  case i2c =>
    obtain ⟨st', h0, rfl⟩ := x_st_spec h
    clear h
    have h := h0
    obtain ⟨x, r, rfl, rfl⟩ := x_i1_spec h
    exact lv_i2c hx hb hrel rfl (kk H locs ls hl hP hz hS)
  case l2i =>
    obtain ⟨st', h0, rfl⟩ := x_st_spec h
    clear h
    have h := h0
    obtain ⟨x, r, rfl, rfl⟩ := x_l1_spec h
    exact lv_l2i hx hb hrel rfl (kk H locs ls hl hP hz hS)
  case lneg =>
    obtain ⟨st', h0, rfl⟩ := x_st_spec h
    clear h
    have h := h0
    obtain ⟨x, r, rfl, rfl⟩ := x_l1_spec h
    exact lv_lneg hx hb hrel (kk H locs ls hl hP hz hS)
  case lcmp =>
    obtain ⟨st', h0, rfl⟩ := x_st_spec h
    clear h
    have h := h0
    split at h
    · cases h
      exact W.lcmp hx hb hrel (kk H locs ls hl hP hz hS)
    · cases h
  case iconst n =>
    obtain ⟨st', h0, rfl⟩ := x_st_spec h
    clear h
    have h := h0
    cases h
    exact lv_iconst hx hb hrel rfl (kk H locs ls hl hP hz hS)
  case bipush n =>
    obtain ⟨st', h0, rfl⟩ := x_st_spec h
    clear h
    have h := h0
    cases h
    exact lv_bipush hx hb hrel rfl (kk H locs ls hl hP hz hS)
  case sipush n =>
    obtain ⟨st', h0, rfl⟩ := x_st_spec h
    clear h
    have h := h0
    cases h
    exact lv_sipush hx hb hrel rfl (kk H locs ls hl hP hz hS)
  case lconst n =>
    obtain ⟨st', h0, rfl⟩ := x_st_spec h
    clear h
    have h := h0
    cases h
    exact lv_lconst hx hb hrel rfl (kk H locs ls hl hP hz hS)
  case jsr n =>
    obtain ⟨st', h0, rfl⟩ := x_st_spec h
    clear h
    have h := h0
    cases h
    obtain ⟨idx, hd, hm⟩ := hrel
    rcases hd with ⟨hd, rfl⟩ | ⟨hd, rfl⟩
    · exact lv_ldc hx hb hown (hts _ hm) hd (kk H locs ls hl hP hz hS)
    · exact lv_ldcw hx hb hown (hts _ hm) hd (kk H locs ls hl hP hz hS)
  case jsr_w n =>
    obtain ⟨st', h0, rfl⟩ := x_st_spec h
    clear h
    have h := h0
    cases h
    obtain ⟨idx, hd, hm⟩ := hrel
    exact lv_ldc2 hx hb hown (hts _ hm) hd (kk H locs ls hl hP hz hS)
  case ldc j =>
    obtain ⟨st', h0, rfl⟩ := x_st_spec h
    clear h
    have h := h0
    obtain ⟨q, hq, ho, hd⟩ := hrel
    rw [hq] at h
    cases h
    obtain ⟨t, e1, e2⟩ := hCs.2.2.2.1 q (List.mem_of_getElem? hq)
    have kk := kk H locs ls hl hP hz hS
    simp only [List.map_cons, x_v, e1] at kk
    rw [ho] at e2
    rcases hd with ⟨hd, rfl⟩ | ⟨hd, rfl⟩
    · exact va_ldcS hx hb hown e2 hd kk
    · exact x_ldcwS hx hb hown e2 hd kk
  case iload k =>
    obtain ⟨st', h0, rfl⟩ := x_st_spec h
    clear h
    have h := h0
    obtain ⟨v, h1, h2, rfl⟩ := x_ld_spec h
    obtain ⟨x, rfl⟩ := x_isI_spec h2
    exact lv_iload hx hb hrel (x_lk_at hl h1) (kk H locs ls hl hP hz hS)
  case iload_n k =>
    obtain ⟨st', h0, rfl⟩ := x_st_spec h
    clear h
    have h := h0
    obtain ⟨v, h1, h2, rfl⟩ := x_ld_spec h
    obtain ⟨x, rfl⟩ := x_isI_spec h2
    exact lv_iload_n hx hb hrel rfl (x_lk_at hl h1) (kk H locs ls hl hP hz hS)
  case lload k =>
    obtain ⟨st', h0, rfl⟩ := x_st_spec h
    clear h
    have h := h0
    obtain ⟨v, h1, h2, rfl⟩ := x_ld_spec h
    obtain ⟨x, rfl⟩ := x_isL_spec h2
    exact lv_lload hx hb hrel (x_lk_at hl h1) (kk H locs ls hl hP hz hS)
  case lload_n k =>
    obtain ⟨st', h0, rfl⟩ := x_st_spec h
    clear h
    have h := h0
    obtain ⟨v, h1, h2, rfl⟩ := x_ld_spec h
    obtain ⟨x, rfl⟩ := x_isL_spec h2
    exact lv_lload_n hx hb hrel rfl (x_lk_at hl h1) (kk H locs ls hl hP hz hS)
  case aload k =>
    obtain ⟨st', h0, rfl⟩ := x_st_spec h
    clear h
    have h := h0
    obtain ⟨v, h1, h2, rfl⟩ := x_ld_spec h
    obtain ⟨t, e1⟩ := x_isR_spec (z := z) hac1 h2
    have kk := kk H locs ls hl hP hz hS
    have ha := x_lk_at hl h1
    simp only [List.map_cons, e1] at kk ha
    exact lv_aload hx hb hrel ha kk
  case aload_n k =>
    obtain ⟨st', h0, rfl⟩ := x_st_spec h
    clear h
    have h := h0
    obtain ⟨v, h1, h2, rfl⟩ := x_ld_spec h
    obtain ⟨t, e1⟩ := x_isR_spec (z := z) hac1 h2
    have kk := kk H locs ls hl hP hz hS
    have ha := x_lk_at hl h1
    simp only [List.map_cons, e1] at kk ha
    exact lv_aload_n hx hb hrel rfl ha kk
  case istore k =>
    obtain ⟨v, r, rfl, h2, h3, rfl⟩ := x_sv_spec h
    obtain ⟨x, rfl⟩ := x_isI_spec h2
    exact lv_istore hx hb hrel hl h3 (x_s1_lm (z := z) hac (k : Nat) (.int x) lv) (fun ls' hl' => kk H locs ls' hl' hP hz hS)
  case istore_n k =>
    obtain ⟨v, r, rfl, h2, h3, rfl⟩ := x_sv_spec h
    obtain ⟨x, rfl⟩ := x_isI_spec h2
    exact lv_istore_n hx hb hrel rfl hl h3 (x_s1_lm (z := z) hac (k : Nat) (.int x) lv) (fun ls' hl' => kk H locs ls' hl' hP hz hS)
  case lstore k =>
    obtain ⟨v, r, rfl, h2, h3, rfl⟩ := x_sv_spec h
    obtain ⟨x, rfl⟩ := x_isL_spec h2
    exact lv_lstore hx hb hrel hl h3 (x_s2_lm (z := z) hac (k : Nat) (.long x) lv) (fun ls' hl' => kk H locs ls' hl' hP hz hS)
  case lstore_n k =>
    obtain ⟨v, r, rfl, h2, h3, rfl⟩ := x_sv_spec h
    obtain ⟨x, rfl⟩ := x_isL_spec h2
    exact lv_lstore_n hx hb hrel rfl hl h3 (x_s2_lm (z := z) hac (k : Nat) (.long x) lv) (fun ls' hl' => kk H locs ls' hl' hP hz hS)
  case astore k =>
    obtain ⟨v, r, rfl, h2, h3, rfl⟩ := x_sv_spec h
    obtain ⟨t, e1⟩ := x_isR_spec (z := z) hac1 h2
    have hs1 := x_s1_lm (z := z) hac (k : Nat) v lv
    rw [e1] at hs1
    simp only [List.map_cons, e1]
    exact lv_astore hx hb hrel hl h3 hs1 (fun ls' hl' => kk H locs ls' hl' hP hz hS)
  case astore_n k =>
    obtain ⟨v, r, rfl, h2, h3, rfl⟩ := x_sv_spec h
    obtain ⟨t, e1⟩ := x_isR_spec (z := z) hac1 h2
    have hs1 := x_s1_lm (z := z) hac (k : Nat) v lv
    rw [e1] at hs1
    simp only [List.map_cons, e1]
    exact lv_astore_n hx hb hrel rfl hl h3 hs1 (fun ls' hl' => kk H locs ls' hl' hP hz hS)
  case iinc k n =>
    simp only [x_step] at h
    split at h
    · rename_i x hk
      by_cases hn : k < M.2.2.1
      · rw [if_pos hn] at h
        cases h
        obtain ⟨j, hj⟩ := x_lk_ix (z := z) (ac := ac) hk
        exact lv_iinc hx hb hrel hl hj rfl hn (x_s1_lm hac k (.int (x + Int32.ofInt n)) lv) (fun ls' hl' => kk H locs ls' hl' hP hz hS)
      · rw [if_neg hn] at h; cases h
    · cases h
  case dup =>
    obtain ⟨st', h0, rfl⟩ := x_st_spec h
    clear h
    have h := h0
    split at h
    · rename_i v r
      by_cases hc : v.category = 1
      · rw [if_pos hc] at h
        cases h
        exact lv_dup hx hb hrel (by rw [x_v_cat hac]; exact hc) (kk H locs ls hl hP hz hS)
      · rw [if_neg hc] at h; cases h
    · cases h
  case pop =>
    obtain ⟨st', h0, rfl⟩ := x_st_spec h
    clear h
    have h := h0
    split at h
    · rename_i v r
      by_cases hc : v.category = 1
      · rw [if_pos hc] at h
        cases h
        exact lv_pop hx hb hrel (by rw [x_v_cat hac]; exact hc) (kk H locs ls hl hP hz hS)
      · rw [if_neg hc] at h; cases h
    · cases h
  case dup2 =>
    obtain ⟨st', h0, rfl⟩ := x_st_spec h
    clear h
    have h := h0
    split at h
    · rename_i v v2 r
      by_cases hc : v.category = 1 ∧ v2.category = 1
      · rw [if_pos hc] at h
        cases h
        exact lv_dup2_11 hx hb hrel (by rw [x_v_cat hac]; exact hc.1) (by rw [x_v_cat hac]; exact hc.2) (kk H locs ls hl hP hz hS)
      · rw [if_neg hc] at h; cases h
    · cases h
  case goto off =>
    obtain ⟨t, h0, rfl⟩ := x_jp_spec h
    clear h
    have h := h0
    exact lv_goto hx hb hrel (x_to_spec h) (kk H locs ls hl hP hz hS)
  case ifCond cd off =>
    simp only [x_step] at h
    split at h
    · obtain ⟨t, h0, rfl⟩ := x_jp_spec h
      clear h
      have h := h0
      cases cd
      · exact x_b0eq hx hb hrel h (kk H locs ls hl hP hz hS)
      · exact x_b0ne hx hb hrel h (kk H locs ls hl hP hz hS)
      · exact x_b0lt hx hb hrel h (kk H locs ls hl hP hz hS)
      · exact x_b0ge hx hb hrel h (kk H locs ls hl hP hz hS)
      · exact x_b0gt hx hb hrel h (kk H locs ls hl hP hz hS)
      · exact x_b0le hx hb hrel h (kk H locs ls hl hP hz hS)
    · cases h
  case if_icmp cd off =>
    simp only [x_step] at h
    split at h
    · obtain ⟨t, h0, rfl⟩ := x_jp_spec h
      clear h
      have h := h0
      cases cd
      · exact x_b2eq hx hb hrel h (kk H locs ls hl hP hz hS)
      · exact x_b2ne hx hb hrel h (kk H locs ls hl hP hz hS)
      · exact x_b2lt hx hb hrel h (kk H locs ls hl hP hz hS)
      · exact x_b2ge hx hb hrel h (kk H locs ls hl hP hz hS)
      · exact x_b2gt hx hb hrel h (kk H locs ls hl hP hz hS)
      · exact x_b2le hx hb hrel h (kk H locs ls hl hP hz hS)
    · cases h
  case tableswitch d lo hi offs =>
    simp only [x_step] at h
    split at h
    · rename_i x r
      obtain ⟨t, h0, rfl⟩ := x_jp_spec h
      clear h
      have h := h0
      by_cases hc : x.toInt < lo ∨ hi < x.toInt
      · rw [if_pos hc] at h
        exact lv_tableOut hx hb hrel hc (x_to_spec h) (kk H locs ls hl hP hz hS)
      · rw [if_neg hc] at h
        cases ho : offs[(x.toInt - lo).toNat]? with
        | none => rw [ho] at h; cases h
        | some off =>
          rw [ho] at h
          exact lv_tableIn hx hb hrel (fun c1 => hc (Or.inl c1)) (fun c1 => hc (Or.inr c1)) ho (x_to_spec h) (kk H locs ls hl hP hz hS)
    · cases h
  case lookupswitch d ps =>
    simp only [x_step] at h
    split at h
    · rename_i x r
      by_cases hc : (ps.toList.zip (ps.toList.drop 1)).all (fun (a, next) => a.1 < next.1) = true
      · rw [if_pos hc] at h
        obtain ⟨t, h0, rfl⟩ := x_jp_spec h
        clear h
        have h := h0
        exact lv_lookup hx hb hrel hc rfl (x_to_spec h) (kk H locs ls hl hP hz hS)
      · rw [if_neg hc] at h; cases h
    · cases h
  case iaload =>
    obtain ⟨st', h0, rfl⟩ := x_st_spec h
    clear h
    have h := h0
    unfold x_ai at h
    split at h
    · rename_i i k r
      split at h
      · rename_i t n f hw
        by_cases hc : (t = 0 ∨ t = 0) ∧ x_in i n = true
        · rw [if_pos hc] at h
          cases h
          have hg := x_w_get0 (z := z) (ac := ac) (kA := kA) hw
          rcases hc.1 with rfl | rfl
          · exact va_iald hx hb hK hP k 0 hg rfl (x_in_spec hc.2) hrel (kk H locs ls hl hP hz hS)
          · exact va_iald hx hb hK hP k 0 hg rfl (x_in_spec hc.2) hrel (kk H locs ls hl hP hz hS)
        · rw [if_neg hc] at h; cases h
      · cases h
    · rename_i i k r
      split at h
      · rename_i ty' l' hca
        by_cases hc : ty' = .int ∧ x_in i l'.length = true
        · rw [if_pos hc] at h
          cases h
          obtain ⟨t, e1, hT⟩ := hCs.2.1 _ (x_ca_mem hca)
          dsimp only at e1 hT
          rw [hc.1] at hT
          simp only [List.map_cons, x_v, e1]
          exact va_ti hx hb hT hS (x_in_spec hc.2) rfl hrel (kk H locs ls hl hP hz hS)
        · rw [if_neg hc] at h; cases h
      · cases h
    · cases h
  case baload =>
    obtain ⟨st', h0, rfl⟩ := x_st_spec h
    clear h
    have h := h0
    unfold x_ai at h
    split at h
    · rename_i i k r
      split at h
      · rename_i t n f hw
        by_cases hc : (t = 2 ∨ t = 3) ∧ x_in i n = true
        · rw [if_pos hc] at h
          cases h
          have hg := x_w_get0 (z := z) (ac := ac) (kA := kA) hw
          rcases hc.1 with rfl | rfl
          · exact va_bald hx hb hK hP k 2 hg rfl (x_in_spec hc.2) hrel (kk H locs ls hl hP hz hS)
          · exact va_zald hx hb hK hP k 3 hg rfl (x_in_spec hc.2) hrel (kk H locs ls hl hP hz hS)
        · rw [if_neg hc] at h; cases h
      · cases h
    · rename_i i k r
      split at h
      · rename_i ty' l' hca
        by_cases hc : ty' = .byte ∧ x_in i l'.length = true
        · rw [if_pos hc] at h
          cases h
          obtain ⟨t, e1, hT⟩ := hCs.2.1 _ (x_ca_mem hca)
          dsimp only at e1 hT
          rw [hc.1] at hT
          simp only [List.map_cons, x_v, e1]
          exact va_tb hx hb hT hS (x_in_spec hc.2) rfl hrel (kk H locs ls hl hP hz hS)
        · rw [if_neg hc] at h; cases h
      · cases h
    · cases h
  case laload =>
    obtain ⟨st', h0, rfl⟩ := x_st_spec h
    clear h
    have h := h0
    unfold x_al at h
    split at h
    · rename_i i k r
      split at h
      · rename_i n f hw
        by_cases hc : x_in i n = true
        · rw [if_pos hc] at h
          cases h
          exact va_lald hx hb hK hP k 1 (x_w_get0 hw) rfl (x_in_spec hc) hrel (kk H locs ls hl hP hz hS)
        · rw [if_neg hc] at h; cases h
      · cases h
    · cases h
  case arraylength =>
    obtain ⟨st', h0, rfl⟩ := x_st_spec h
    clear h
    have h := h0
    unfold x_an at h
    split at h
    · rename_i k r
      split at h
      · rename_i t a hw
        by_cases hc : t < 4
        · rw [if_pos hc] at h
          cases h
          have ht : ∃ ty, (x_tys kA)[t]? = some (kA t, ty) := by
            rcases (show t = 0 ∨ t = 1 ∨ t = 2 ∨ t = 3 by omega) with rfl | rfl | rfl | rfl <;> exact ⟨_, rfl⟩
          obtain ⟨ty, ht⟩ := ht
          exact va_alen hx hb hK hP k t (x_w_get0 hw) ht rfl hrel (kk H locs ls hl hP hz hS)
        · rw [if_neg hc] at h; cases h
      · cases h
    · rename_i k r
      split at h
      · rename_i ty' l' hca
        cases h
        obtain ⟨t, e1, hT⟩ := hCs.2.1 _ (x_ca_mem hca)
        dsimp only at e1 hT
        simp only [List.map_cons, x_v, e1]
        exact va_tlen hx hb hT hS rfl hrel (kk H locs ls hl hP hz hS)
      · cases h
    · cases h
  case iastore =>
    obtain ⟨st', w', h0, rfl⟩ := x_sw_spec h
    clear h
    have h := h0
    unfold x_si at h
    split at h
    · rename_i x i k r
      split at h
      · rename_i n f hw
        by_cases hc : x_in i n = true
        · rw [if_pos ⟨rfl, hc⟩] at h
          cases h
          refine x_wiast hx hb hK hP hD hS k 0 (x_w_get0 hw) rfl (x_in_spec hc) hrel (fun H1 locs1 hP1 hz1 hS1 => kk H1 locs1 ls hl ?_ ?_ hS1)
          · exact (x_w_set0 w k _) ▸ hP1
          · rw [hz1, hz]; simp
        · rw [if_neg (fun c1 => hc c1.2)] at h; cases h
      · rename_i n f hw
        rw [if_neg (fun c1 => absurd c1.1 (by decide))] at h; cases h
      · rename_i n f hw
        rw [if_neg (fun c1 => absurd c1.1 (by decide))] at h; cases h
      · cases h
    · cases h
  case bastore =>
    obtain ⟨st', w', h0, rfl⟩ := x_sw_spec h
    clear h
    have h := h0
    unfold x_si at h
    split at h
    · rename_i x i k r
      split at h
      · rename_i n f hw
        rw [if_neg (fun c1 => absurd c1.1 (by decide))] at h; cases h
      · rename_i n f hw
        by_cases hc : x_in i n = true
        · rw [if_pos ⟨rfl, hc⟩] at h
          cases h
          refine x_wbast hx hb hK hP hD hS k 2 (x_w_get0 hw) rfl (x_in_spec hc) hrel (fun H1 locs1 hP1 hz1 hS1 => kk H1 locs1 ls hl ?_ ?_ hS1)
          · exact (x_w_set0 w k _) ▸ hP1
          · rw [hz1, hz]; simp
        · rw [if_neg (fun c1 => hc c1.2)] at h; cases h
      · rename_i n f hw
        by_cases hc : x_in i n = true
        · rw [if_pos ⟨rfl, hc⟩] at h
          cases h
          refine x_wzast hx hb hK hP hD hS k 3 (x_w_get0 hw) rfl (x_in_spec hc) hrel (fun H1 locs1 hP1 hz1 hS1 => kk H1 locs1 ls hl ?_ ?_ hS1)
          · exact (x_w_set0 w k _) ▸ hP1
          · rw [hz1, hz]; simp
        · rw [if_neg (fun c1 => hc c1.2)] at h; cases h
      · cases h
    · cases h
  case lastore =>
    obtain ⟨st', w', h0, rfl⟩ := x_sw_spec h
    clear h
    have h := h0
    unfold x_sl at h
    split at h
    · rename_i x i k r
      split at h
      · rename_i n f hw
        by_cases hc : x_in i n = true
        · rw [if_pos hc] at h
          cases h
          refine x_wlast hx hb hK hP hD hS k 1 (x_w_get0 hw) rfl (x_in_spec hc) hrel (fun H1 locs1 hP1 hz1 hS1 => kk H1 locs1 ls hl ?_ ?_ hS1)
          · exact (x_w_set0 w k _) ▸ hP1
          · rw [hz1, hz]; simp
        · rw [if_neg hc] at h; cases h
      · cases h
    · cases h
  case getfield k =>
    obtain ⟨st', h0, rfl⟩ := x_st_spec h
    clear h
    have h := h0
    obtain ⟨idx, C, T, N, hdg, hc, hk, hlink⟩ := hrel
    obtain ⟨c1, c2, c3, -, -, -, -⟩ := hcl _ _ _ _ hc
    unfold x_gf at h
    split at h
    · rename_i a r
      split at h
      · rename_i ci fs hw
        by_cases hci : ci = k / 100
        · rw [if_pos hci] at h
          cases hv : fs[k % 100]? with
          | none => rw [hv] at h; cases h
          | some v =>
            rw [hv] at h
            cases h
            subst hci
            exact va_get (v := x_v z ac v) hx hb hts c1 hown hK hP a (x_w_get0 hw) hc (k % 100) hk (hts _ hlink) (fun _ h9 => h9) (by rw [List.getElem?_map, hv]; rfl) hdg (kk H locs ls hl hP hz hS)
        · rw [if_neg hci] at h; cases h
      · cases h
    · cases h
  case putfield k =>
    obtain ⟨st', w', h0, rfl⟩ := x_sw_spec h
    clear h
    have h := h0
    obtain ⟨idx, C, T, N, hdg, hc, hk, hlink, hfin⟩ := hrel
    obtain ⟨c1, c2, c3, -, -, -, -⟩ := hcl _ _ _ _ hc
    unfold x_pf at h
    split at h
    · rename_i v a r
      split at h
      · rename_i ci fs hw
        by_cases hci : ci = k / 100 ∧ k % 100 < fs.length ∧ x_fit (G.2.1 ci (k % 100)) v = true
        · rw [if_pos hci] at h
          cases h
          obtain ⟨rfl, hlen, hfit⟩ := hci
          have hf2 := x_fit_spec (z := z) (ac := ac) hfit
          refine x_wput hx hb hts c1 (G.2.1 (k / 100)) c2 c3 hown hK hP hD hS a (x_w_get0 hw) hc (k % 100) hk (hts _ hlink) (fun _ h9 => h9) (Or.inl hfin) (c2 _ hk) hf2.1 hf2.2 (by rw [List.length_map]; exact hlen) hdg (fun H1 locs1 hP1 hz1 hS1 => kk H1 locs1 ls hl ?_ ?_ hS1)
          · have e1 : (x_w z ac kA 0 w).set a (z + a, .inr (k / 100, (fs.map (x_v z ac)).set (k % 100) (x_v z ac v))) = x_w z ac kA 0 (w.set a (.inr (k / 100, fs.set (k % 100) v))) := by
              rw [← x_w_set0 w a]
              show _ = (x_w z ac kA 0 w).set a (z + a, .inr (k / 100, (fs.set (k % 100) v).map (x_v z ac)))
              rw [List.map_set]
            exact e1 ▸ hP1
          · rw [hz1, hz]; simp
        · rw [if_neg hci] at h; cases h
      · cases h
    · cases h
  case putstatic k =>
    obtain ⟨st', w', h0, rfl⟩ := x_sw_spec h
    clear h
    have h := h0
    obtain ⟨idx, C, T, N, hdg, hc, hk, hlink, hfin, hdecl, hnm⟩ := hrel
    obtain ⟨c1, c2, c3, -, -, -, -⟩ := hcl _ _ _ _ hc
    unfold x_pf at h
    split at h
    · rename_i v a r
      split at h
      · rename_i ci fs hw
        by_cases hci : ci = k / 100 ∧ k % 100 < fs.length ∧ x_fit (G.2.1 ci (k % 100)) v = true
        · rw [if_pos hci] at h
          cases h
          obtain ⟨rfl, hlen, hfit⟩ := hci
          have hf2 := x_fit_spec (z := z) (ac := ac) hfit
          refine x_wput hx hb hts c1 (G.2.1 (k / 100)) c2 c3 hown hK hP hD hS a (x_w_get0 hw) hc (k % 100) hk (hts _ hlink) (fun _ h9 => h9) (Or.inr ⟨hfin, hin hnm, hdecl⟩) (c2 _ hk) hf2.1 hf2.2 (by rw [List.length_map]; exact hlen) hdg (fun H1 locs1 hP1 hz1 hS1 => kk H1 locs1 ls hl ?_ ?_ hS1)
          · have e1 : (x_w z ac kA 0 w).set a (z + a, .inr (k / 100, (fs.map (x_v z ac)).set (k % 100) (x_v z ac v))) = x_w z ac kA 0 (w.set a (.inr (k / 100, fs.set (k % 100) v))) := by
              rw [← x_w_set0 w a]
              show _ = (x_w z ac kA 0 w).set a (z + a, .inr (k / 100, (fs.set (k % 100) v).map (x_v z ac)))
              rw [List.map_set]
            exact e1 ▸ hP1
          · rw [hz1, hz]; simp
        · rw [if_neg hci] at h; cases h
      · cases h
    · cases h
  case instanceof f =>
    obtain ⟨st', h0, rfl⟩ := x_st_spec h
    clear h
    have h := h0
    obtain ⟨idx, hdg, hlink⟩ := hrel
    unfold x_cg at h
    split at h
    · rename_i a r
      split at h
      · rename_i v hv
        cases h
        obtain ⟨t, e1, hE, -⟩ := hCs.2.2.1 _ (x_cf_mem hv)
        dsimp only at e1 hE
        have kk := kk H locs ls hl hP hz hS
        simp only [List.map_cons, x_v, e1]
        exact vk_getf hx hb hE hS hown (hts _ hlink) (fun _ h9 => h9) hdg kk
      · cases h
    · cases h
  case getstatic j =>
    obtain ⟨st', h0, rfl⟩ := x_st_spec h
    clear h
    have h := h0
    obtain ⟨idx, q, hdg, hq, hlink⟩ := hrel
    rw [hq] at h
    cases h
    have hZ := hCs.1 q (List.mem_of_getElem? hq)
    rcases hlink with hlink | ⟨host, hlink⟩
    · exact va_gets hx hb hZ hS hown (hts _ hlink) (fun _ h9 => h9) hdg (kk H locs ls hl hP hz hS)
    · exact va_getsN hx hb hZ hS hown (va_Nw.use rfl (hCs.2.2.2.2 _ hlink)) (fun _ h9 => h9) hdg (kk H locs ls hl hP hz hS)
  case new ci =>
    cases h
    obtain ⟨idx, C, T, N, hdg, hc, hlink⟩ := hrel
    obtain ⟨c1, c2, c3, c4, c5, c6, c7⟩ := hcl _ _ _ _ hc
    have hfs : (G.2.2.1 ci).map (x_v z ac) = G.2.2.1 ci := by
      conv => rhs; rw [← List.map_id (G.2.2.1 ci)]
      refine List.map_congr_left fun v hv => ?_
      obtain ⟨j, hj⟩ := List.getElem?_of_mem hv
      have hjl : j < N := by rw [← c6]; exact (List.getElem?_eq_some_iff.mp hj).1
      cases v with
      | ref k => exact absurd hj ((c7 j hjl).2 k).1
      | retAddr k => exact absurd hj ((c7 j hjl).2 k).2
      | _ => rfl
    dsimp only at hrc hrs
    refine x_wnew hx hb hts c1 (G.2.1 ci) c2 hown (hts _ hlink) (hts _ c4) (hts _ c5) hK hP hS hc (fun j hj => (c7 j hj).1) hrc (by rw [← c6]; exact hrs) hdg (fun H1 hP1 hz1 hS1 => ?_)
    rw [← c6]
    have hP2 : va_P D cl (x_w z ac kA 0 (w ++ [.inr (ci, G.2.2.1 ci)])) H1 := by
      rw [x_w_app0]
      show va_P D cl (x_w z ac kA 0 w ++ [(z + w.length, .inr (ci, (G.2.2.1 ci).map (x_v z ac)))]) H1
      rw [hfs, ← hz]
      exact hP1
    have kk := kk H1 locs ls hl hP2 (by rw [hz1, hz]; simp; omega) hS1
    simp only [List.map_cons, x_v] at kk
    rw [hz]
    exact kk
  case newarray t =>
    obtain ⟨hdg, harr⟩ := hrel
    simp only [x_step] at h
    split at h
    · rename_i a b n r hat
      by_cases hc : ¬ n < 0 ∧ n.toNatClampNeg * b ≤ 536870912
      · rw [if_pos hc] at h
        cases h
        dsimp only at hrc hrs
        have key : ∃ ty, newarray.typeOf t = ty ∧ (x_tys kA)[a]? = some (kA a, ty) ∧ componentBytes ty = b ∧ vp_cell (kA a) (x_a0 a n.toNatClampNeg) = arrV (kA a) n.toNatClampNeg (fun _ => defaultValue ty) ∧ ∀ C, ty ≠ .object C := by
          cases t <;> simp only [x_at] at hat <;> first | (cases hat; done) | (cases hat; exact ⟨_, rfl, rfl, rfl, rfl, fun C e => by cases e⟩)
        obtain ⟨ty, e1, e2, e3, e4, e5⟩ := key
        have hRA := (hK.2 a _ e2).2
        have hfc : s.vm.findClass ("[" ++ (newarray.typeOf t).toString) = some (kA a) := by
          rw [e1]
          cases ty with
          | object C => exact absurd rfl (e5 C)
          | _ => exact hRA
        refine x_wnewa hx hb (hts _ harr) hP hS hfc (a0 := x_a0 a n.toNatClampNeg) (by rw [e1]; exact e4) hc.1 rfl (by rw [e1, e3]; exact hc.2) hrc hrs hdg (fun H1 hP1 hz1 hS1 => ?_)
        have hP2 : va_P D cl (x_w z ac kA 0 (w ++ [.inl (a, x_a0 a n.toNatClampNeg)])) H1 := by
          rw [x_w_app0, ← hz]
          exact hP1
        have kk := kk H1 locs ls hl hP2 (by rw [hz1, hz]; simp; omega) hS1
        simp only [List.map_cons, x_v] at kk
        rw [hz]
        exact kk
      · rw [if_neg hc] at h; cases h
    · cases h
  all_goals exact absurd h (by simp [x_step])
