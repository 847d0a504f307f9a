/-! MEASURE: how deep loops lie in loops, of the text -/
theorem ld.blk {m0 : yM} {T N n t o : Nat} (ho : o ≤ 60) (hw : bkW (m0.1 9 t)) : ld T (60 - o) t o (p_blk m0 N n t o) := by
  unfold p_blk
  rcases hi : p_step m0 t o with ⟨t1, o1, G1⟩ | e1
  · dsimp only
    obtain ⟨rfl, rfl, rfl⟩ := p_step_o hi
    have hd : ∀ t1 o1, gm m0 T 185 (fun ks => if m0.1 9 t = 0 then ks = [8] else ks = []) t1 (p_hd m0 (m0.1 9 t) t1 o1) := by
      intro t1 o1
      unfold p_hd
      split
      · rename_i z
        exact (gm.bind gm.exp (fun _ _ => gm.simple.w (show 1 ≤ 185 by omega) (fun _ z => z))).w (Nat.le_refl _) (fun ks h => h.eL)
      · exact gm.u
    have a0 := gm.bind (gm.bind (gm.exp' (m0 := m0) (T := T) (N := 185) (t := t + 1) (o := o1) (k := 64)) hd) (fun t1 o1 => (gm.sects 8192 t1 o1).w (show 4 ≤ 185 by omega) (fun _ z => z))
    have co : ∀ t' o' G, p_bind (p_bind (p_exp m0 64 (t + 1) o1) (p_hd m0 (m0.1 9 t))) (p_sects m0 8192) = .inl (t', o', G) → o' = o1 := by
      intro t' o' G e
      obtain ⟨_, _, _, _, e5, e6⟩ := p_bind_ex e
      obtain ⟨_, _, _, _, e7, e8⟩ := p_bind_ex e5
      have b2 := p_sects_o _ _ _ _ _ _ e6
      have b3 := (p_exp_o e7).2.1
      have b5 : ∀ {w t o t' o' G}, p_hd m0 w t o = .inl (t', o', G) → o' = o := by
        intro w t o t' o' G e
        unfold p_hd at e
        split at e
        · obtain ⟨_, _, _, _, e1, e2⟩ := p_bind_ex e
          have a1 := (p_exp_o e1).2.1
          have a2 := p_simple_o e2
          omega
        · simp only [Sum.inl.injEq, Prod.mk.injEq] at e; omega
      have b6 := b5 e8
      omega
    refine ld.nd ?_ ?_
    · refine ld.b (t1 := t + 1 + 1) (ld.s (ld.pp (ld.of (gs.of a0 co) (fun ks h => ?_)) (fun t2 G _ => ?_))) (by omega)
      · obtain ⟨a, f, rfl, ⟨g1, g2, rfl, ⟨rfl, -, -⟩, h4⟩, h2⟩ := h
        intro x hx
        rcases List.mem_append.mp hx with hx | hx
        · rw [List.nil_append] at hx
          split at h4
          · exact nL1 (by decide) h4 x hx
          · exact nL0 h4 x hx
        · rw [h2 x hx]
          decide
      · unfold p_bdy
        split
        · exact ld.of (gs.of (gm.lad (T := T)) (fun _ _ _ e => lad_o e)) (fun _ e => nL1 (by decide) e)
        · exact lTT n 0 0 t2 o1 ho
    · rcases hw with k | k | k <;> rw [k] <;> decide
  · intro t' o' G e
    cases e
theorem ld.blks {m0 : yM} {T N n : Nat} {o : Nat} (ho : o ≤ 60) : ∀ q t, ld T (60 - o) t o (p_blks m0 N n q t o)
  | 0, t => ld.u
  | q + 1, t => by
    rw [p_blks_s]
    split
    · rename_i z
      exact (ld.blk ho z).pp (fun t1 G _ => ld.blks ho q t1)
    · exact ld.u
theorem text_ld {m0 : yM} {T N n t o : Nat} {F : List ND} (hT : TKok m0 T) (e : p_text m0 N n = some (.inl (t, o, F))) : LDG 60 F := by
  have tl := (p_text_len hT e).2
  unfold p_text at e
  have hb : ld T 60 0 0 (some (p_beg m0)) := by
    intro t' o' G e
    have e := Option.some.inj e
    unfold p_beg at e
    split at e
    · cases e
    · simp only [Sum.inl.injEq, Prod.mk.injEq] at e
      obtain ⟨rfl, rfl, rfl⟩ := e
      exact ⟨rfl, Nat.le_refl _, fun _ => LDG.nil.w (Nat.zero_le _)⟩
  have a : ld T 60 0 0 (pnode 0 0 0 0 (po (po (some (p_beg m0)) (p_blks m0 N n 8192)) (fun t o => some (p_end m0 t o)))) := by
    refine ld.nd (ld.pp (ld.pp hb (fun t1 G _ => ld.blks (by omega) 8192 t1)) (fun t1 G _ => ?_)) (by decide)
    intro t' o' G e
    have e := Option.some.inj e
    unfold p_end at e
    split at e
    · simp only [Sum.inl.injEq, Prod.mk.injEq] at e
      obtain ⟨rfl, rfl, rfl⟩ := e
      exact ⟨rfl, Nat.le_refl _, fun _ => LDG.nil.w (Nat.zero_le _)⟩
    · cases e
  exact (a t o F e).2.2 tl
/-- loops below a node, one in another -/
def DLc (F : List ND) (k n : Nat) : Prop := ∀ L, chG F L (n + 1) (n + szF F n) → L.length ≤ k
theorem DLc.in {F : List ND} {k n c : Nat} (h : DLc F k n) (h1 : n ≤ c) (h2 : c + szF F c ≤ n + szF F n) : DLc F k c := fun L hL => h L (hL.mo (by omega) (by omega))
theorem DLc.lp {F : List ND} {k n c : Nat} (h : DLc F k n) (h1 : n < c) (h2 : c < n + szF F n) (h3 : (F.getD c (0, 0, 0, 0, 1)).1 = 19) : 1 ≤ k ∧ DLc F (k - 1) c := by
  have one := h [c] ⟨by omega, h2, h3, trivial⟩
  refine ⟨one, fun L hL => ?_⟩
  have := h (c :: L) ⟨by omega, h2, h3, hL⟩
  rw [List.length_cons] at this
  omega
theorem DLc.of {F : List ND} {k : Nat} (h : LDG k F) {n : Nat} (hn : n < F.length) : DLc F k n := fun L hL => h.2 L (hL.mo (Nat.zero_le _) (h.1 n hn))
