/-! calls and returns -/
theorem x_retOk {p : Program} {l : Launch} {e : Env} {R : Room} {s : State} {m : MethodId} {args : Array Value} {below : List Frame} {meth : Method} {c : Code}
    {xt : List Cond} {G : xG} {cl : List vw_C} {ms : Nat → Option xM} {D : va_G} {kA : Nat → ClassId} {z : Nat} {ac : Nat → Value} {M : xM} (hO : x_Ok xt G cl ac) (hF : x_Fx xt G cl D kA z ac M p s m args meth c)
    {pc len : Nat} {i : Instr} {st : List Value} {w : xW} {ck cs : Nat} {v : Option Value} (h : x_ret i M.2.2.2.1 st = some v) (hrel : x_rel xt G cl ms M.1 M.2.1 pc len i)
    {H : Heap} {locs : List Loc} {ls : Array Slot} (hP : va_P D cl (x_w z ac kA 0 w) H) (hz : H.size = z + w.length) (hS : va_S (x_A z) s.heap H locs) :
    W p l e R s m args below meth c H locs ck cs (MQ below (x_Qc cl D kA z ac v w) args s ck cs (x_A z)) (F0 m pc ls (st.map (x_v z ac))) := by
  obtain ⟨hcl, hac, hac1, hnst⟩ := hO
  obtain ⟨hx, hb, hml, hown, hts, hr, hlocks, hin, hK, hCs, hzs⟩ := hF
  unfold x_ret at h
  split at h
  · by_cases hn : M.2.2.2.1 = none
    · rw [if_pos hn] at h
      cases h
      rw [hn] at hr
      exact W.vret hx hb hr (fun t ht _ => ⟨rfl, by rw [ht]; exact hP, by rw [ht]; exact hz, hS.F ht⟩) hS.2.2 hrel hlocks
    · rw [if_neg hn] at h; cases h
  · rename_i x
    cases hrt : M.2.2.2.1 with
    | none => rw [hrt] at h; cases h
    | some ty =>
      rw [hrt] at h hr
      dsimp only at h
      by_cases hn : narrow ty (.int x) = .int x
      · rw [if_pos hn] at h
        cases h
        exact W.zret hx hb hr hn (fun t ht _ => ⟨rfl, by rw [ht]; exact hP, by rw [ht]; exact hz, hS.F ht⟩) hS.2.2 hrel hlocks
      · rw [if_neg hn] at h; cases h
  · by_cases hn : M.2.2.2.1 = some .long
    · rw [if_pos hn] at h
      cases h
      rw [hn] at hr
      exact W.lret hx hb hr (fun t ht _ => ⟨rfl, by rw [ht]; exact hP, by rw [ht]; exact hz, hS.F ht⟩) hS.2.2 hrel hlocks
    · rw [if_neg hn] at h; cases h
  · rename_i k
    split at h
    · rename_i nm hrt
      by_cases hk : k = 0
      · rw [if_pos hk] at h; cases h
      · rw [if_neg hk] at h
        cases h
        rw [hrt] at hr
        obtain ⟨t0, e0⟩ := hac1 k hk
        exact W.aret (v := ac k) hx hb hr (Or.inl ⟨nm, rfl⟩) (Or.inr ⟨t0, e0⟩) (fun t ht _ => ⟨rfl, by rw [ht]; exact hP, by rw [ht]; exact hz, hS.F ht⟩) hS.2.2 hrel hlocks
    · cases h
  · cases h
theorem x_good {xt : List Cond} (hG : x_gd xt) {w : Cond} (hw : w ∈ xt) : GoodIn xt (w :: xt) := fun v hv => by
  rcases List.mem_cons.mp hv with rfl | hv
  · exact ⟨hw, hG _ hw⟩
  · exact ⟨hv, hG _ hv⟩
set_option maxHeartbeats 1000000 in
theorem x_callRun {p : Program} {l : Launch} {e : Env} {R : Room} {s : State} {m : MethodId} {args : Array Value} {below : List Frame} {meth : Method} {c : Code}
    {xt : List Cond} {G : xG} {cl : List vw_C} {ms : Nat → Option xM} {cd : Nat → Nat → Option (Instr × Nat)} {D : va_G} {kA : Nat → ClassId} {z : Nat} {ac : Nat → Value} {M M' : xM} (hO : x_Ok xt G cl ac) (hMO : x_MOk xt G cl ms cd) (hG : x_gd xt) (hF : x_Fx xt G cl D kA z ac M p s m args meth c)
    {pc len kd j d : Nat} {i : Instr} {st as r : List Value} {w w' : xW} {ck cs mc mz : Nat} {v : Option Value} (hc : x_cl i = some (kd, j)) (hrel : x_rel xt G cl ms M.1 M.2.1 pc len i) (hj : ms j = some M') (hst : st = as.reverse ++ r) (hlen : as.length = M'.2.2.2.2.1) (hcat : x_cat r ≤ 8) (hrcv : x_rcv G kd M'.2.2.2.2.2 as w = true) (hne : M'.2.2.2.2.2 ≠ 99)
    (hMet : Met l M'.1 (Cond.code M'.1 M'.2.1 M'.2.2.1 M'.2.2.2.1 :: xt) (x_rm d mc mz) (x_Pc G cl D kA z ac as w) (x_Qc cl D kA z ac v w') mc mz (x_A z)) (hfr : d + 1 ≤ R.frames) (hlo : (d + 1) * 48 ≤ R.locals) (hf : ck + mc ≤ R.cells ∧ cs + mz ≤ R.slots)
    {H : Heap} {locs : List Loc} {ls : Array Slot} (hl : ls.size = M.2.2.1) (hP : va_P D cl (x_w z ac kA 0 w) H) (hz : H.size = z + w.length) (hS : va_S (x_A z) s.heap H locs) :
    ∃ a, va_Run p l e R s m args below meth c H locs ck cs mc mz (F0 m pc ls (st.map (x_v z ac))) (r.map (x_v z ac)) (x_Qc cl D kA z ac v w' a) (x_A z) := by
  obtain ⟨hcl, hac, hac1, hnst⟩ := hO
  obtain ⟨hx, hb, hml, hown, hts, hr, hlocks, hin, hK, hCs, hzs⟩ := hF
  obtain ⟨m1, m2, m3, m4, m5⟩ := (hMO j M' hj).1.resolve_left hne
  have hgd := x_good hG m2
  have hR : (x_rm d mc mz).frames + 1 ≤ R.frames ∧ 8 + (M'.2.2.1 + 11) + (x_rm d mc mz).locals ≤ R.locals := by
    refine ⟨hfr, ?_⟩
    show 8 + (M'.2.2.1 + 11) + d * 48 ≤ R.locals
    omega
  have hpre : ∀ U : State, U.heap = H → s.WarmedH U.vm → x_Pc G cl D kA z ac as w (as.map (x_v z ac)).toArray U := fun U hU hW =>
    ⟨rfl, by rw [hU]; exact hP, by rw [hU]; exact hz, va_K.moved hW.alike hK, hCs.go (locs := locs) hnst hW (by rw [hU]; exact hS)⟩
  have hroom : 2 * (F0 m pc ls (st.map (x_v z ac))).monitorRoom + ((r.map (x_v z ac)).map fun v => v.category).sum ≤ 8 := lv_room (by rw [x_cat_map hac]; exact hcat)
  cases i
  case invokestatic i0 =>
    cases hc
    obtain ⟨idx, M1, hdg, hj1, hlink, hstat, hpar⟩ := hrel
    cases hj.symm.trans hj1
    exact ⟨_, va_runS (As := as.map (x_v z ac)) (rest := r.map (x_v z ac)) ⟨hx, hb, hml, hown, hts⟩ hMet ⟨callB_of M'.2.2.2.2.1 hts hgd rfl rfl rfl (hts _ m3) (hts _ hlink) ⟨m4.1, m4.2, hpar⟩ hR, hts _ hstat⟩ ⟨x_blind hnst as w, hpre⟩ rfl (by rw [List.length_map]; exact hlen) hl (by show st.map _ = _; rw [hst, List.map_append, List.map_reverse]) hroom hdg hf⟩
  case invokevirtual i0 =>
    cases hc
    obtain ⟨idx, M1, n0, hdg, hj1, hlink, hinst, hsel, hpar, hn0, hcn⟩ := hrel
    cases hj.symm.trans hj1
    have key : ∃ (b : Nat) (v0 : Value) (as' : List Value), as = v0 :: as' ∧ x_v z ac v0 = .ref b ∧ ∃ cellB : Cell, H[b]? = some cellB ∧ cellB.vm.isStatics = false ∧ s.vm.findClass M'.1.cls = some cellB.cls := by
      unfold x_rcv at hrcv
      rw [if_neg (by decide)] at hrcv
      split at hrcv
      · rename_i b as'
        rw [if_pos rfl] at hrcv
        split at hrcv
        · rename_i ci fs hw
          have hci := of_decide_eq_true hrcv
          subst hci
          rcases hcn with ⟨T, N, hcN, -⟩ | ⟨e1, e2, -⟩
          · exact ⟨z + b, .ref b, as', rfl, rfl, va_recv hK hP hcN (x_w_get0 hw)⟩
          · rw [e1] at hw
            obtain ⟨r9, h9, -⟩ := hP b _ (x_w_get0 hw)
            exact absurd (h9.symm.trans e2) (by simp)
        · cases hrcv
      · rename_i b as'
        simp only [Bool.and_eq_true, decide_eq_true_eq] at hrcv
        obtain ⟨⟨-, hcn90⟩, hsome⟩ := hrcv
        rcases hcn with ⟨T, N, hcN, hlt⟩ | ⟨-, -, e3⟩
        · exact absurd hcn90 (by omega)
        · cases hv : x_cf b 0 G.1.2.2.1 with
          | none => rw [hv] at hsome; cases hsome
          | some v1 =>
            obtain ⟨t, e1, -, hOo⟩ := hCs.2.2.1 _ (x_cf_mem hv)
            obtain ⟨cell, g1, g2, g3, -⟩ := hOo.kept hS.2.1
            exact ⟨t, .retAddr b, as', rfl, e1, cell, g1, g2, by rw [e3]; exact g3⟩
      · cases hrcv
    obtain ⟨b, v0, as', rfl, ev, hcell⟩ := key
    have hpre' : ∀ U : State, U.heap = H → s.WarmedH U.vm → x_Pc G cl D kA z ac (v0 :: as') w (Value.ref b :: as'.map (x_v z ac)).toArray U := fun U hU hW => by
      have h9 := hpre U hU hW
      rwa [List.map_cons, ev] at h9
    exact ⟨_, va_runV (b := b) (As := as'.map (x_v z ac)) (rest := r.map (x_v z ac)) ⟨hx, hb, hml, hown, hts⟩ hMet ⟨callB_of n0 hts hgd rfl rfl rfl (hts _ m3) (hts _ hlink) ⟨m4.1, m4.2, hpar⟩ hR, hts _ hinst, hts _ hsel⟩ ⟨x_blind hnst _ w, hcell, hpre'⟩ rfl (by rw [List.length_map]; rw [List.length_cons] at hlen; omega) hl (by show st.map _ = _; rw [hst, List.reverse_cons, List.append_assoc, List.map_append, List.map_reverse]; show _ ++ (x_v z ac v0 :: r.map _) = _; rw [ev]) hroom hdg hf⟩
  case invokespecial i0 =>
    cases hc
    obtain ⟨idx, M1, n0, hdg, hj1, hlink, hinst, hnm, hret, hpar, hn0⟩ := hrel
    cases hj.symm.trans hj1
    unfold x_rcv at hrcv
    rw [if_neg (by decide)] at hrcv
    split at hrcv
    · rename_i b as'
      rw [hret] at hMet hgd
      exact ⟨_, va_runI (b := z + b) (As := as'.map (x_v z ac)) (rest := r.map (x_v z ac)) ⟨hx, hb, hml, hown, hts⟩ hMet ⟨callB_of n0 hts hgd rfl rfl rfl (hts _ m3) (hts _ hlink) ⟨m4.1, m4.2, hpar⟩ hR, hnm, hts _ hinst⟩ ⟨x_blind hnst _ w, hpre⟩ rfl (by rw [List.length_map]; rw [List.length_cons] at hlen; omega) hl (by show st.map _ = _; rw [hst, List.reverse_cons, List.append_assoc, List.map_append, List.map_reverse]; rfl) hroom hdg hf⟩
    · simp at hrcv
    · cases hrcv
  case invokeinterface i0 i1 =>
    cases hc
    obtain ⟨idx, M1, n0, host, hdg, hj1, hlink, hinst, hnm, hret, hpar, hn0⟩ := hrel
    cases hj.symm.trans hj1
    unfold x_rcv at hrcv
    rw [if_neg (by decide)] at hrcv
    split at hrcv
    · rename_i b as'
      rw [hret] at hMet hgd
      exact ⟨_, va_runIN (b := z + b) (As := as'.map (x_v z ac)) (rest := r.map (x_v z ac)) ⟨hx, hb, hml, hown, hts⟩ hMet ⟨va_cnB n0 hts hgd rfl rfl rfl (hCs.2.2.2.2 _ hlink) (hts _ m3) ⟨m4.1, m4.2, hpar⟩ hR, hnm, hts _ hinst⟩ ⟨x_blind hnst _ w, hpre⟩ rfl (by rw [List.length_map]; rw [List.length_cons] at hlen; omega) hl (by show st.map _ = _; rw [hst, List.reverse_cons, List.append_assoc, List.map_append, List.map_reverse]; rfl) hroom hdg hf⟩
    · simp at hrcv
    · cases hrcv
  all_goals exact absurd hc (by simp [x_cl])
