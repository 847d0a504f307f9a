/-! THE TREE'S GRAMMAR: blocks, the text -/
theorem blk_o {m0 : yM} {N n t o t' o' : Nat} {G : List ND} (h : p_blk m0 N n t o = some (.inl (t', o', G))) : o' = o := by
  unfold p_blk at h
  rcases hi : p_step m0 t o with ⟨t1, o1, G1⟩ | e1
  · rw [hi] at h
    dsimp only at h
    have b0 := (p_step_o hi).2.1
    obtain ⟨_, h, -⟩ := pnode_some h
    obtain ⟨t3, o3, _, _, e1, e2, -⟩ := po_some h
    have b1 := (p_exp_o (Option.some.inj e2)).2.1
    obtain ⟨t4, o4, _, _, e3, e4, -⟩ := po_some e1
    obtain ⟨_, _, _, _, e5, e6⟩ := p_bind_ex (Option.some.inj e3)
    obtain ⟨_, _, _, _, e7, e8⟩ := p_bind_ex e5
    have b2 := p_sects_o _ _ _ _ _ _ e6
    have b3 := (p_exp_o e7).2.1
    have b4 : ∀ {w t o t' o' G}, p_hd m0 w t o = .inl (t', o', G) → o' = o := by
      intro w t o t' o' G e
      unfold p_hd at e
      split at e
      · obtain ⟨_, _, _, _, e1, e2⟩ := p_bind_ex e
        have a1 := (p_exp_o e1).2.1
        have a2 := p_simple_o e2
        omega
      · simp only [Sum.inl.injEq, Prod.mk.injEq] at e; omega
    have b5 := b4 e8
    have b6 : o3 = o4 := by
      unfold p_bdy at e4
      split at e4
      · exact lad_o (Option.some.inj e4)
      · exact eqT m0 N n _ _ _ _ _ _ _ e4
    omega
  · rw [hi] at h; cases h
theorem gmo.blk {m0 : yM} {T N n t o : Nat} (ho : o ≤ 60) (hw : bkW (m0.1 9 t)) : gmo m0 T 186 (fun ks => ∃ k, (k = 1 ∨ k = 2 ∨ k = 3) ∧ ks = [k]) t (p_blk m0 N n t o) := by
  intro X e t' o' G hX
  subst hX
  unfold p_blk at e
  rcases hi : p_step m0 t o with ⟨t1, o1, G1⟩ | e1
  · rw [hi] at e
    dsimp only at e
    obtain ⟨rfl, rfl, rfl⟩ := p_step_o hi
    obtain ⟨G2, e2, rfl⟩ := pnode_some e
    have hd : ∀ t1 o1, gm m0 T 185 (fun ks => if m0.1 9 t = 0 then ks = [8] else ks = []) t1 (p_hd m0 (m0.1 9 t) t1 o1) := by
      intro t1 o1
      unfold p_hd
      split
      · rename_i z
        exact (gm.bind gm.exp (fun _ _ => gm.simple.w (show 1 ≤ 185 by omega) (fun _ z => z))).w (Nat.le_refl _) (fun ks h => h.eL)
      · exact gm.u
    have a0 := gm.bind (gm.bind (gm.exp' (m0 := m0) (T := T) (N := 185) (t := t + 1) (o := o1) (k := 64)) hd) (fun t1 o1 => (gm.sects 8192 t1 o1).w (show 4 ≤ 185 by omega) (fun _ z => z))
    have a := gmo.pp (f := fun t' o' => some (p_exp m0 (m0.1 9 t + 1) t' o')) (gmo.pp (f := p_bdy m0 N n) (gmo.s a0) (fun t2 o2 G e => by
      have e := Option.some.inj e
      obtain ⟨_, _, _, _, e5, e6⟩ := p_bind_ex e
      obtain ⟨_, _, _, _, e7, e8⟩ := p_bind_ex e5
      have b2 := p_sects_o _ _ _ _ _ _ e6
      have b3 := (p_exp_o e7).2.1
      have b5 : ∀ {w t o t' o' G}, p_hd m0 w t o = .inl (t', o', G) → o' = o := by
        intro w t o t' o' G e
        unfold p_hd at e
        split at e
        · obtain ⟨_, _, _, _, e1, e2⟩ := p_bind_ex e
          have a1 := (p_exp_o e1).2.1
          have a2 := p_simple_o e2
          omega
        · simp only [Sum.inl.injEq, Prod.mk.injEq] at e; omega
      have b6 := b5 e8
      exact gmo.bdy (N := N) (n := n) (t := t2) (o := o2) (by omega))) (fun t2 o2 G _ => gmo.s (gm.exp (k := m0.1 9 t + 1)))
    have b := a _ e2 t' o' G2 rfl
    refine ⟨by omega, fun hT => ?_⟩
    obtain ⟨vi, ks, hks, g⟩ := b.2 hT
    have hks' : ∃ a b2, ks = a ++ b2 ∧ cat (isX m0 T (t + 1) 64) (fun ks => if m0.1 9 t = 0 then ks = [8] else ks = []) a ∧ cat (al 4) isBd b2 := by
      obtain ⟨c, d, rfl, ⟨e, f, rfl, h1, h2⟩, rfl⟩ := hks
      obtain ⟨g1, g2, rfl, h3, h4⟩ := h1
      exact ⟨g1, g2 ++ f, by simp, h3, g2, f, rfl, h4, h2⟩
    clear hks
    obtain ⟨a, b2, rfl, ⟨a, s, rfl, ⟨rfl, lt, h64⟩, hh⟩, hs⟩ := hks'
    obtain ⟨s4, bd, rfl, hs4, b0, hb0, rfl⟩ := hs
    have nm : nmN m0 T (m0.1 11 (t + 1)) (t + 1 + 1) := ⟨t + 1, rfl, lt, h64, rfl⟩
    have vi' := vi.c (t := t) (k := 1 + (m0.1 9 t - 0) / 2) (p := m0.1 10 t) (v := m0.1 11 (t + 1)) (s := G2.length + 1) (by omega) b.1
    rcases hw with k | k | k
    · rw [if_pos k] at hh
      rw [k] at vi' ⊢
      refine ⟨vi', [1], ⟨1, by omega, rfl⟩, GF.one ?_⟩
      exact g.nd (k := 1) ⟨nm, s4, b0, by rw [hh]; simp, hs4, hb0⟩
    · rw [if_neg (by rw [k]; decide)] at hh
      rw [k] at vi' ⊢
      refine ⟨vi', [2], ⟨2, by omega, rfl⟩, GF.one ?_⟩
      exact g.nd (k := 2) ⟨nm, s4, b0, by rw [hh]; simp, hs4, hb0⟩
    · rw [if_neg (by rw [k]; decide)] at hh
      rw [k] at vi' ⊢
      refine ⟨vi', [3], ⟨3, by omega, rfl⟩, GF.one ?_⟩
      exact g.nd (k := 3) ⟨nm, s4, b0, by rw [hh]; simp, hs4, hb0⟩
  · rw [hi] at e; cases e
theorem gmo.u {m0 : yM} {T N t o : Nat} {P : List Nat → Prop} (hP : P []) : gmo m0 T N P t (unit_ t o) := gmo.s (gm.u.w (Nat.le_refl _) (fun ks e => by rw [e]; exact hP))
theorem gmo.w {m0 : yM} {T N N' t : Nat} {P P' : List Nat → Prop} {r : Option PX} (h : gmo m0 T N P t r) (hN : N ≤ N') (hP : ∀ ks, P ks → P' ks) : gmo m0 T N' P' t r := fun X e => (h X e).w hN hP
abbrev bkK (ks : List Nat) : Prop := ∀ x, x ∈ ks → x = 1 ∨ x = 2 ∨ x = 3
theorem gmo.blks {m0 : yM} {T N n : Nat} {o : Nat} (ho : o ≤ 60) : ∀ q t, gmo m0 T 186 bkK t (p_blks m0 N n q t o)
  | 0, t => gmo.u (fun x hx => by simp at hx)
  | q + 1, t => by
    rw [p_blks_s]
    split
    · rename_i z
      refine gmo.w (gmo.pp (P' := bkK) (gmo.blk ho z) (fun t1 o1 G e => ?_)) (Nat.le_refl _) (fun ks h => ?_)
      · rw [blk_o e]
        exact gmo.blks ho q t1
      · obtain ⟨a, b, rfl, ⟨k, hk, rfl⟩, h⟩ := h
        exact fun x hx => (List.mem_append.mp hx).elim (fun y => by rw [List.mem_singleton.mp y]; exact hk) (h x)
    · exact gmo.u (fun x hx => by simp at hx)
/-- the text's tree -/
theorem p_text_gt {m0 : yM} {T N n t o : Nat} {F : List ND} (hT : TKok m0 T) (e : p_text m0 N n = some (.inl (t, o, F))) : GT m0 T 187 0 F ∧ VI 0 T F := by
  have tl := (p_text_len hT e).2
  unfold p_text at e
  obtain ⟨G, e1, rfl⟩ := pnode_some e
  have hb : gmo m0 T 186 isE 0 (some (p_beg m0)) := by
    unfold p_beg
    split
    · exact gmo.s (gm.e _)
    · exact gmo.s gm.u
  have a := gmo.pp (gmo.pp hb (fun t1 o1 G e => by
    have e := Option.some.inj e
    unfold p_beg at e
    split at e
    · cases e
    · simp only [Sum.inl.injEq, Prod.mk.injEq] at e
      obtain ⟨rfl, rfl, rfl⟩ := e
      exact gmo.blks (N := N) (n := n) (by omega) 8192 0)) (fun t1 o1 G e => gmo.s (by
    show gm m0 T 186 isE t1 (p_end m0 t1 o1)
    unfold p_end
    split
    · exact gm.u
    · exact gm.e _))
  have b := (a _ e1 t o G rfl).2 tl
  obtain ⟨vi, ks, hks, g⟩ := b
  refine ⟨g.nd (k := 0) ⟨rfl, hks.eR.eL⟩, VI.z ⟨vi.1, fun x hx => by have := vi.2 x hx; omega⟩⟩
