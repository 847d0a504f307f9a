/-! no step takes cells back -/
theorem x_st_mono {pc len : Nat} {lv : xL} {w : xW} {ck cs : Nat} {o : Option (List Value)} {q : xR} (h : x_st pc len lv w ck cs o = some q) : ck ≤ q.2.2.2.2.1 ∧ cs ≤ q.2.2.2.2.2 := by
  obtain ⟨st', h0, rfl⟩ := x_st_spec h
  exact ⟨Nat.le_refl _, Nat.le_refl _⟩
theorem x_sw_mono {pc len : Nat} {lv : xL} {ck cs : Nat} {o : Option (List Value × xW)} {q : xR} (h : x_sw pc len lv ck cs o = some q) : ck ≤ q.2.2.2.2.1 ∧ cs ≤ q.2.2.2.2.2 := by
  obtain ⟨st', w', h0, rfl⟩ := x_sw_spec h
  exact ⟨Nat.le_refl _, Nat.le_refl _⟩
theorem x_jp_mono {lv : xL} {st : List Value} {w : xW} {ck cs : Nat} {o : Option Nat} {q : xR} (h : x_jp lv st w ck cs o = some q) : ck ≤ q.2.2.2.2.1 ∧ cs ≤ q.2.2.2.2.2 := by
  obtain ⟨t, h0, rfl⟩ := x_jp_spec h
  exact ⟨Nat.le_refl _, Nat.le_refl _⟩
theorem x_sv_mono {pc len i nL : Nat} {ok : Value → Bool} {two : Bool} {lv : xL} {st : List Value} {w : xW} {ck cs : Nat} {q : xR} (h : x_sv pc len i nL ok two lv st w ck cs = some q) : ck ≤ q.2.2.2.2.1 ∧ cs ≤ q.2.2.2.2.2 := by
  obtain ⟨v, r, -, -, -, rfl⟩ := x_sv_spec h
  exact ⟨Nat.le_refl _, Nat.le_refl _⟩
set_option maxHeartbeats 1000000 in
theorem x_step_mono {G : xG} {nL len pc : Nat} {i : Instr} {lv : xL} {st : List Value} {w : xW} {ck cs : Nat} {q : xR} (h : x_step G nL len pc i lv st w ck cs = some q) : ck ≤ q.2.2.2.2.1 ∧ cs ≤ q.2.2.2.2.2 := by
  cases i
  case new ci => cases h; exact ⟨Nat.le_succ _, Nat.le_add_right _ _⟩
  case newarray t =>
    simp only [x_step] at h
    split at h
    · split at h
      · cases h; exact ⟨Nat.le_succ _, Nat.le_add_right _ _⟩
      · cases h
    · cases h
  case iinc k n =>
    simp only [x_step] at h
    split at h
    · split at h
      · cases h; exact ⟨Nat.le_refl _, Nat.le_refl _⟩
      · cases h
    · cases h
  case ifCond c off =>
    simp only [x_step] at h
    split at h
    · exact x_jp_mono h
    · cases h
  case if_icmp c off =>
    simp only [x_step] at h
    split at h
    · exact x_jp_mono h
    · cases h
  case tableswitch d lo hi offs =>
    simp only [x_step] at h
    split at h
    · exact x_jp_mono h
    · cases h
  case lookupswitch d ps =>
    simp only [x_step] at h
    split at h
    · split at h
      · exact x_jp_mono h
      · cases h
    · cases h
  all_goals first | exact x_st_mono h | exact x_sw_mono h | exact x_jp_mono h | exact x_sv_mono h | exact absurd h (by simp [x_step])
/-! SOUNDNESS -/
theorem x_sound {l : Launch} {xt : List Cond} {G : xG} {cl : List vw_C} {ms : Nat → Option xM} {cd : Nat → Nat → Option (Instr × Nat)} {D : va_G} {kA : Nat → ClassId} {z : Nat} {ac : Nat → Value} (hO : x_Ok xt G cl ac) (hM : x_MOk xt G cl ms cd) (hG : x_gd xt) :
    ∀ n, x_Snd l xt G cl ms cd D kA z ac n := by
  intro n
  induction n with
  | zero => intro d y pc lv st w ck cs r w' mc mz h; cases h
  | succ n hn =>
    intro d y pc lv st w ck cs r w' mc mz h M hy
    unfold x_exec at h
    split at h
    · rename_i i len M1 hcd hm1
      cases hy.symm.trans hm1
      have hrel := (hM y M hy).2 pc i len hcd
      cases hcl : x_cl i with
      | some kj =>
        obtain ⟨kd, j⟩ := kj
        rw [hcl] at h
        dsimp only at h
        split at h
        · rename_i d' M' hj
          split at h
          · rename_i as rs htk
            by_cases hc : x_cat rs ≤ 8 ∧ x_cat as ≤ M'.2.2.1 ∧ x_rcv G kd M'.2.2.2.2.2 as w = true ∧ M'.2.2.2.2.2 ≠ 99
            · rw [if_pos hc] at h
              split at h
              · rename_i v w1 mc1 mz1 hcall
                obtain ⟨h1, h2, h3⟩ := hn _ _ _ _ _ _ _ _ _ _ _ _ h M hy
                obtain ⟨hst, hlen⟩ := x_take_spec htk
                refine ⟨by omega, by omega, ?_⟩
                intro p e R s m args below meth c hF hfr hlo hrc hrs H locs ls hl hP hz hS
                obtain ⟨a, hrun⟩ := x_callRun (ck := ck) (cs := cs) (below := below) (e := e) (ls := ls) hO hM hG hF hcl hrel hj hst hlen hc.1 hc.2.2.1 hc.2.2.2 (x_met hO hM hn hcall hj hc.2.1 hc.2.2.2) hfr hlo ⟨by omega, by omega⟩ hl.1 hP hz hS
                refine x_after hrun hS (fun H1 locs1 hP1 hz1 hS1 => ?_)
                have h4 := h3 p e R s m args below meth c hF hfr hlo hrc hrs H1 locs1 ls hl hP1 hz1 hS1
                cases v with
                | none => exact h4
                | some v0 => exact h4
              · cases h
            · rw [if_neg hc] at h; cases h
          · cases h
        · cases h
      | none =>
        rw [hcl] at h
        dsimp only at h
        cases hret : x_ret i M.2.2.2.1 st with
        | some v =>
          rw [hret] at h
          cases h
          exact ⟨Nat.le_refl _, Nat.le_refl _, fun p e R s m args below meth c hF _ _ _ _ H locs ls hl hP hz hS => x_retOk hO hF hret hrel hP hz hS⟩
        | none =>
          rw [hret] at h
          dsimp only at h
          cases hmi : x_mi i st with
          | some sr =>
            obtain ⟨st', rs⟩ := sr
            rw [hmi] at h
            dsimp only at h
            by_cases hc : x_cat rs ≤ 8 ∧ 1 ≤ d
            · rw [if_pos hc] at h
              obtain ⟨h1, h2, h3⟩ := hn _ _ _ _ _ _ _ _ _ _ _ _ h M hy
              refine ⟨h1, h2, ?_⟩
              intro p e R s m args below meth c hF hfr hlo hrc hrs H locs ls hl hP hz hS
              have h4 := h3 p e R s m args below meth c hF hfr hlo hrc hrs H locs ls hl hP hz hS
              obtain ⟨hx, hb, hml, hown, hts, -⟩ := hF
              have hcm : ((rs.map (x_v z ac)).map fun v => v.category).sum ≤ 8 := by rw [x_cat_map hO.2.1]; exact hc.1
              unfold x_mi at hmi
              split at hmi
              · rename_i a r0
                injection hmi with hmi
                injection hmi with e1 e2
                subst e1
                subst e2
                obtain ⟨idx, hdg, r1, r2, r3⟩ := hrel
                refine W.objInit hx hb hown (hts _ r1) (hts _ r2) (hts _ r3) rfl (by rw [hml]; exact hl.1) rfl hdg (by omega) ?_ h4
                have h5 := lv_room (m := m) (pc := pc) (ls := ls) (rest := (Value.ref a :: r0).map (x_v z ac)) hcm
                have h6 : 2 * (F0 m pc ls ((Value.ref a :: r0).map (x_v z ac))).monitorRoom + ((r0.map (x_v z ac)).map fun v => v.category).sum ≤ 8 := h5
                omega
              · cases hmi
                obtain ⟨idx, hdg, r1, r2, r3, r4⟩ := hrel
                exact va_mmax hx hb (by rw [hml]; exact hl.1.symm) hown (hts _ r1) (hts _ r2) (hts _ r3) (hts _ r4) (by omega) (by omega) (by omega) (by omega) hdg h4
              · cases hmi
                obtain ⟨idx, hdg, r1, r2, r3, r4⟩ := hrel
                exact va_mmin hx hb (by rw [hml]; exact hl.1.symm) hown (hts _ r1) (hts _ r2) (hts _ r3) (hts _ r4) (by omega) (by omega) (by omega) (by omega) hdg h4
              · cases hmi
                obtain ⟨idx, hdg, r1, r2, r3, r4⟩ := hrel
                exact va_mmax_long hx hb (by rw [hml]; exact hl.1.symm) hown (hts _ r1) (hts _ r2) (hts _ r3) (hts _ r4) (by omega) (by omega) (by omega) (by omega) hdg h4
              · cases hmi
                obtain ⟨idx, hdg, r1, r2, r3, r4⟩ := hrel
                exact va_mmin_long hx hb (by rw [hml]; exact hl.1.symm) hown (hts _ r1) (hts _ r2) (hts _ r3) (hts _ r4) (by omega) (by omega) (by omega) (by omega) hdg h4
              · cases hmi
            · rw [if_neg hc] at h; cases h
          | none =>
            rw [hmi] at h
            dsimp only at h
            split at h
            · rename_i q hq
              obtain ⟨h1, h2, h3⟩ := hn _ _ _ _ _ _ _ _ _ _ _ _ h M hy
              have hmono := x_step_mono hq
              refine ⟨by omega, by omega, ?_⟩
              intro p e R s m args below meth c hF hfr hlo hrc hrs H locs ls hl hP hz hS
              exact x_step_ok hO hF hq hrel (by omega) (by omega) hl hP hz hS (fun H' locs' ls' hl' hP' hz' hS' => h3 p e R s m args below meth c hF hfr hlo hrc hrs H' locs' ls' hl' hP' hz' hS')
            · cases h
    · cases h
