/-! THE TEXT: what of it the rules want -/
def c12 (G : List ND) : Nat := (G.filter (fun q => decide (q.1 = 1 ∨ q.1 = 2))).length
theorem c12_app (G H : List ND) : c12 (G ++ H) = c12 G + c12 H := by unfold c12; rw [List.filter_append, List.length_append]
theorem c12_cons (q : ND) (G : List ND) : c12 (q :: G) = (if q.1 = 1 ∨ q.1 = 2 then 1 else 0) + c12 G := by
  unfold c12
  by_cases h : q.1 = 1 ∨ q.1 = 2
  · rw [List.filter_cons_of_pos (by exact decide_eq_true h), if_pos h, List.length_cons]
    omega
  · rw [List.filter_cons_of_neg (by intro z; exact h (of_decide_eq_true z)), if_neg h]
    omega
theorem c12_fl : ∀ (Cs : List (Nat × List ND)), (∀ c, c ∈ Cs → c12 c.2 = 0) → c12 (Cs.map Prod.snd).flatten = 0
  | [], _ => rfl
  | c :: Cs, h => by
    rw [List.map_cons, List.flatten_cons, c12_app, h c List.mem_cons_self, c12_fl Cs (fun x hx => h x (List.mem_cons_of_mem _ hx))]
theorem sBl_c : ∀ k, k < 37 → ¬ k = 0 → ∀ x, x ∈ kidK k → ¬ (x = 0 ∨ x = 1 ∨ x = 2 ∨ x = 3) := by decide
theorem GT.c0 {m0 : yM} {T : Nat} : ∀ (N k : Nat) (G : List ND), GT m0 T N k G → ¬ (k = 0 ∨ k = 1 ∨ k = 2 ∨ k = 3) → c12 G = 0 := by
  intro N
  induction N with
  | zero => intro k G h; exact absurd h (fun z => z)
  | succ N ih =>
    intro k G h hk
    obtain ⟨p, v, vt, Cs, rfl, ho, hc⟩ := h
    have k37 := ho.lt
    rw [c12_cons, c12_fl Cs (fun c hm => ih c.1 c.2 (hc c hm) (sBl_c k k37 (by omega) _ (ho.kid _ (List.mem_map_of_mem hm)))), if_neg]
    intro z
    rcases z with z | z
    · have z : nI k = nI 1 := z
      have := (nI_eq (by omega) (by omega)).mp z
      omega
    · have z : nI k = nI 2 := z
      have := (nI_eq (by omega) (by omega)).mp z
      omega
theorem GT.c1 {m0 : yM} {T N k : Nat} {G : List ND} (h : GT m0 T N k G) (hk : k = 1 ∨ k = 2 ∨ k = 3) : c12 G ≤ 1 ∧ (k = 3 → c12 G = 0) := by
  cases N with
  | zero => exact absurd h (fun z => z)
  | succ N =>
    obtain ⟨p, v, vt, Cs, rfl, ho, hc⟩ := h
    rw [c12_cons, c12_fl Cs (fun c hm => GT.c0 N c.1 c.2 (hc c hm) (sBl_c k (by omega) (by omega) _ (ho.kid _ (List.mem_map_of_mem hm))))]
    refine ⟨by split <;> omega, fun z => ?_⟩
    subst z
    rfl
/-- a block's tokens -/
theorem blk_t {m0 : yM} {T N n t o t' o' : Nat} {G : List ND} (ho : o ≤ 60) (h : p_blk m0 N n t o = some (.inl (t', o', G))) : ∃ te, t + 2 ≤ te ∧ t' = te + 1 ∧ m0.1 9 te = m0.1 9 t + 1 := by
  unfold p_blk at h
  rcases hi : p_step m0 t o with ⟨t1, o1, G1⟩ | e1
  · rw [hi] at h
    dsimp only at h
    obtain ⟨rfl, rfl, rfl⟩ := p_step_o hi
    obtain ⟨_, h, -⟩ := pnode_some h
    obtain ⟨t3, o3, _, _, e1, e2, -⟩ := po_some h
    obtain ⟨x1, x2, x3, x4⟩ := p_exp_o (Option.some.inj e2)
    obtain ⟨t4, o4, _, G4, e3, e4, -⟩ := po_some e1
    obtain ⟨t5, o5, G5, _, e5, e6⟩ := p_bind_ex (Option.some.inj e3)
    obtain ⟨t6, o6, G6, _, e7, e8⟩ := p_bind_ex e5
    obtain ⟨y1, y2, y3, y4⟩ := p_exp_o e7
    have hd : ∀ t1 o1, gm m0 T 185 (fun ks => if m0.1 9 t = 0 then ks = [8] else ks = []) t1 (p_hd m0 (m0.1 9 t) t1 o1) := by
      intro t1 o1
      unfold p_hd
      split
      · rename_i z
        exact (gm.bind gm.exp (fun _ _ => gm.simple.w (show 1 ≤ 185 by omega) (fun _ z => z))).w (Nat.le_refl _) (fun ks h => h.eL)
      · exact gm.u
    have b1 := (hd t6 o6 _ _ _ e8).1
    have b2 := (gm.sects (m0 := m0) (T := T) 8192 t5 o5 _ _ _ e6).1
    have b5 : ∀ {w t o t' o' G}, p_hd m0 w t o = .inl (t', o', G) → o' = o := by
      intro w t o t' o' G e
      unfold p_hd at e
      split at e
      · obtain ⟨_, _, _, _, e1, e2⟩ := p_bind_ex e
        have a1 := (p_exp_o e1).2.1
        have a2 := p_simple_o e2
        omega
      · simp only [Sum.inl.injEq, Prod.mk.injEq] at e; omega
    have b6 := b5 e8
    have b7 := p_sects_o _ _ _ _ _ _ e6
    have b3 := (gmo.bdy (m0 := m0) (T := T) (N := N) (n := n) (t := t4) (o := o4) (by omega) _ e4 _ _ _ rfl).1
    exact ⟨t3, by omega, x1, x4⟩
  · rw [hi] at h; cases h
theorem EN.w1 {E : EV} {Ns : List (List Int32)} (h : EN E Ns) {t w : Nat} (ht : t < E.2.2.2.2) (hw : w < 41) (hk : E.1.1 9 t = nI w) : (tokN E.2.2.1 E.2.2.2.1 (ps E.2.2.1 E.2.2.2.1 t)).1.1 = 1 := by
  obtain ⟨h1, h2, h3, h4, h5, h6, h7⟩ := h
  obtain ⟨a1, a2⟩ := h7 t (by omega)
  by_cases z : (tokN E.2.2.1 E.2.2.2.1 (ps E.2.2.1 E.2.2.2.1 t)).1.1 = 1
  · exact z
  · rw [if_neg z] at a2
    have e1 := a2.1
    rw [hk] at e1
    exfalso
    have big : ∀ K : Nat, K < 256 → 41 ≤ K → ¬ nI w = nI K := fun K k1 k2 e => by
      have := (nI_eq (a := w) (b := K) (by omega) (by omega)).mp e
      omega
    unfold ckd at e1
    by_cases z2 : (tokN E.2.2.1 E.2.2.2.1 (ps E.2.2.1 E.2.2.2.1 t)).1.1 = 2
    · rw [if_pos z2] at e1; exact big 65 (by omega) (by omega) e1
    · rw [if_neg z2] at e1
      by_cases z3 : (tokN E.2.2.1 E.2.2.2.1 (ps E.2.2.1 E.2.2.2.1 t)).1.1 = 3
      · rw [if_pos z3] at e1; exact big 66 (by omega) (by omega) e1
      · rw [if_neg z3] at e1
        by_cases z4 : (tokN E.2.2.1 E.2.2.2.1 (ps E.2.2.1 E.2.2.2.1 t)).1.1 = 4
        · rw [if_pos z4] at e1
          unfold tokN at z4 e1
          by_cases z : (blk E.2.2.1 E.2.2.2.1 8192 (ps E.2.2.1 E.2.2.2.1 t)).2 = true
          · rw [if_pos z] at z4
            exact absurd z4 (show ¬ (5 : Nat) = 4 by decide)
          · rw [if_neg z] at z4 e1
            obtain ⟨s, s1, s2⟩ := tkAt_s z4
            rw [s2] at e1
            have := sK_ge s1
            exact big (sK s) (by omega) (by omega) e1
        · rw [if_neg z4] at e1
          by_cases z5 : (tokN E.2.2.1 E.2.2.2.1 (ps E.2.2.1 E.2.2.2.1 t)).1.1 = 5
          · rw [if_pos z5] at e1; exact big 68 (by omega) (by omega) e1
          · rw [if_neg z5] at e1; exact big 67 (by omega) (by omega) e1
theorem ps_mono {f : Nat → Nat} {n T : Nat} (hE : ∀ i, i < T → ¬ isEnd f n i) : ∀ {a b : Nat}, a ≤ b → b ≤ T → ps f n a + (b - a) ≤ ps f n b := by
  intro a b
  induction b with
  | zero => intro h1 h2; rw [show a = 0 by omega]; exact Nat.le_refl _
  | succ b ih =>
    intro h1 h2
    by_cases e : a = b + 1
    · rw [e, Nat.sub_self]; exact Nat.le_refl _
    · have := ih (by omega) (by omega)
      have := ps_s hE (show b < T by omega)
      omega
theorem KN_l : ((KN.getD 0 []).length = 8 ∧ (KN.getD 1 []).length = 12) ∧ ((KN.getD 2 []).length = 14 ∧ (KN.getD 3 []).length = 18) := by
  decide +kernel
/-- a block that is no PROGRAM takes 21 bytes -/
theorem EN.bl {E : EV} {Ns : List (List Int32)} (h : EN E Ns) {N n t o t' o' : Nat} {G : List ND} (ho : o ≤ 60) (ht : t' ≤ E.2.2.2.2) (w : bkW (E.1.1 9 t)) (e : p_blk E.1 N n t o = some (.inl (t', o', G))) : ps E.2.2.1 E.2.2.2.1 t + 21 * c12 G ≤ ps E.2.2.1 E.2.2.2.1 t' ∧ t ≤ t' := by
  obtain ⟨te, e1, e2, e3⟩ := blk_t (T := E.2.2.2.2) ho e
  have hE := h.2.2.2.2.2.1
  have g := (gmo.blk (T := E.2.2.2.2) (N := N) (n := n) ho w _ e t' o' G rfl).2 ht
  obtain ⟨-, ks, ⟨k, hk, rfl⟩, gf⟩ := g
  have gt : GT E.1 E.2.2.2.2 186 k G := by
    obtain ⟨Cs, c1, c2, c3⟩ := gf
    cases Cs with
    | nil => cases c2
    | cons c Cs =>
      obtain ⟨d1, d2⟩ := List.cons.inj c2
      have : Cs = [] := by simpa using d2
      subst this
      simp only [List.map_cons, List.map_nil, List.flatten_cons, List.flatten_nil, List.append_nil] at c1
      rw [← c1, ← d1]
      exact c3 c List.mem_cons_self
  have c := gt.c1 hk
  have m1 := ps_mono hE (show t + 1 ≤ t + 2 by omega) (by omega)
  have m2 := ps_mono hE e1 (by omega)
  have m0 := ps_mono hE (show t ≤ t' by omega) ht
  have kl := KN_l
  rcases w with w | w | w
  · have a := h.wl (t := t) (w := 0) (by omega) (by omega) w
    have b := h.wl (t := te) (w := 1) (by omega) (by omega) (by rw [e3, w]; rfl)
    rw [kl.1.1] at a
    rw [kl.1.2] at b
    rw [e2]
    omega
  · have a := h.wl (t := t) (w := 2) (by omega) (by omega) w
    have b := h.wl (t := te) (w := 3) (by omega) (by omega) (by rw [e3, w]; rfl)
    rw [kl.2.1] at a
    rw [kl.2.2] at b
    rw [e2]
    omega
  · have k3 : k = 3 := by
      unfold p_blk at e
      rcases hi : p_step E.1 t o with ⟨t1, o1, G1⟩ | e1
      · rw [hi] at e
        dsimp only at e
        obtain ⟨G2, -, eg⟩ := pnode_some e
        rw [w] at eg
        obtain ⟨p, v, vt, Cs, eg2, -⟩ := gt
        rw [eg] at eg2
        have : (1 + ((4 : Int32) - 0) / 2) = nI k := congrArg Prod.fst (List.cons.inj eg2).1
        have : nI 3 = nI k := this
        have := (nI_eq (by omega) (by omega)).mp this
        omega
      · rw [hi] at e; cases e
    rw [c.2 k3]
    omega
theorem EN.bls {E : EV} {Ns : List (List Int32)} (h : EN E Ns) {N n : Nat} : ∀ (q t o t' o' : Nat) (G : List ND), o ≤ 60 → t' ≤ E.2.2.2.2 → p_blks E.1 N n q t o = some (.inl (t', o', G)) → ps E.2.2.1 E.2.2.2.1 t + 21 * c12 G ≤ ps E.2.2.1 E.2.2.2.1 t' ∧ t ≤ t'
  | 0, t, o, t', o', G, _, _, e => by
    have e : (some (.inl (t, o, [])) : Option PX) = some (.inl (t', o', G)) := e
    simp only [Option.some.injEq, Sum.inl.injEq, Prod.mk.injEq] at e
    obtain ⟨rfl, rfl, rfl⟩ := e
    exact ⟨Nat.le_refl _, Nat.le_refl _⟩
  | q + 1, t, o, t', o', G, ho, ht, e => by
    rw [p_blks_s] at e
    by_cases w : bkW (E.1.1 9 t)
    · rw [if_pos w] at e
      obtain ⟨t1, o1, G1, G2, e1, e2, rfl⟩ := po_some e
      have eo := blk_o e1
      subst eo
      have le2 := (gmo.blks (T := E.2.2.2.2) (N := N) (n := n) ho q t1 _ e2 _ _ _ rfl).1
      have a := h.bl ho (by omega) w e1
      have b := EN.bls h q t1 o1 t' o' G2 ho ht e2
      rw [c12_app]
      omega
    · rw [if_neg w] at e
      have e : (some (.inl (t, o, [])) : Option PX) = some (.inl (t', o', G)) := e
      simp only [Option.some.injEq, Sum.inl.injEq, Prod.mk.injEq] at e
      obtain ⟨rfl, rfl, rfl⟩ := e
      exact ⟨Nat.le_refl _, Nat.le_refl _⟩
theorem cnt_fl (F : List ND) (p : ND → Bool) (pd : Nat → Bool) (hp : ∀ i q, F[i]? = some q → pd i = p q) : ∀ i, i ≤ F.length → cntF pd i = ((F.take i).filter p).length
  | 0, _ => rfl
  | i + 1, h => by
    rw [cntF_s, cnt_fl F p pd hp i (by omega)]
    have e : F[i]? = some F[i] := List.getElem?_eq_getElem (by omega)
    rw [List.take_succ, e, hp i _ e, List.filter_append, List.length_append]
    congr 1
    cases hq : p F[i] with
    | true =>
      rw [if_pos rfl]
      simp [hq]
    | false =>
      rw [if_neg (by decide)]
      simp [hq]
theorem ftk_le (F : List ND) (p : ND → Bool) (i : Nat) : ((F.take i).filter p).length ≤ (F.filter p).length := by
  have : F.filter p = (F.take i).filter p ++ (F.drop i).filter p := by rw [← List.filter_append, List.take_append_drop]
  rw [this, List.length_append]
  omega
/-- what a text that was read is -/
theorem HF_of {E : EV} {Ns : List (List Int32)} (h : EN E Ns) (hT : TKok E.1 E.2.2.2.2) {N n t o : Nat} {F : List ND} (e : p_text E.1 N n = some (.inl (t, o, F))) : HF E.1 E.2.2.2.2 F ∧ HN F ∧ TW E.1 E.2.2.2.2 F 187 0 ∧ szF F 0 = F.length := by
  obtain ⟨w1, w2, w3, w4⟩ := text_tw hT e
  obtain ⟨l1, l2⟩ := p_text_len hT e
  have hW : HW E.1 E.2.2.2.2 F := fun j hj => by
    obtain ⟨M, -, hM⟩ := TW.all 187 0 w1 j (Nat.zero_le _) (by rw [w3]; omega)
    exact ⟨M, hM⟩
  have hN : HN F := by
    intro j hj hv
    obtain ⟨M, hM⟩ := hW j hj
    have ok := hM.ok
    have nm : nmN E.1 E.2.2.2.2 (vF F j) (vtF F j) → ∃ k, vF F j = nI k ∧ 41 ≤ k ∧ k < 4172 := by
      rintro ⟨q, q1, q2, q3, q4⟩
      obtain ⟨-, k, k1, k2, -, k4⟩ := h.nm q2 q3
      have := h.2.2.1
      exact ⟨k, by rw [q4]; exact k4, k1, by omega⟩
    have k37 := hM.k37
    generalize hk : kK F j = k at ok k37
    have kc : k ∈ List.range 37 := List.mem_range.mpr k37
    have z : vtF F j = 0 ∨ nmN E.1 E.2.2.2.2 (vF F j) (vtF F j) := by
      rcases (show k = 0 ∨ k = 1 ∨ k = 2 ∨ k = 3 ∨ k = 4 ∨ k = 5 ∨ k = 6 ∨ k = 7 ∨ k = 8 ∨ k = 9 ∨ k = 10 ∨ k = 11 ∨ k = 12 ∨ k = 13 ∨ k = 14 ∨ k = 15 ∨ k = 16 ∨ k = 17 ∨ k = 18 ∨ k = 19 ∨ k = 20 ∨ k = 21 ∨ k = 22 ∨ k = 23 ∨ k = 24 ∨ k = 25 ∨ k = 26 ∨ k = 27 ∨ k = 28 ∨ k = 29 ∨ k = 30 ∨ k = 31 ∨ k = 32 ∨ k = 33 ∨ k = 34 ∨ k = 35 ∨ k = 36 by omega) with rfl | rfl | rfl | rfl | rfl | rfl | rfl | rfl | rfl | rfl | rfl | rfl | rfl | rfl | rfl | rfl | rfl | rfl | rfl | rfl | rfl | rfl | rfl | rfl | rfl | rfl | rfl | rfl | rfl | rfl | rfl | rfl | rfl | rfl | rfl | rfl | rfl <;> first | exact Or.inl ok.1 | exact Or.inr ok.1
    rcases z with z | z
    · exact absurd z hv
    · exact nm z
  have h7 : H7 F := by
    intro j hj k
    obtain ⟨M, hM⟩ := hW j hj
    have ok := hM.ok
    rw [k] at ok
    obtain ⟨-, -, q, q1, q2, q3⟩ := ok
    obtain ⟨w, kk, a1, a2, a3, a4⟩ := h.pl q1 q2
    exact ⟨w, kk, a1, a2, a3, by rw [q3]; exact a4⟩
  have ft := e
  unfold p_text at ft
  obtain ⟨G, e1, eF⟩ := pnode_some ft
  obtain ⟨t1, o1, G1, G2, e2, e3, eG⟩ := po_some e1
  obtain ⟨t0, o0, G0, G3, e4, e5, eG1⟩ := po_some e2
  have e4 := Option.some.inj e4
  unfold p_beg at e4
  split at e4
  · cases e4
  rename_i n68
  simp only [Sum.inl.injEq, Prod.mk.injEq] at e4
  obtain ⟨rfl, rfl, rfl⟩ := e4
  have e3 := Option.some.inj e3
  unfold p_end at e3
  have z67 : E.1.1 9 t1 = 67 := by
    rcases Decidable.em (E.1.1 9 t1 = 67) with y | y
    · exact y
    · exfalso
      rw [if_neg y] at e3
      unfold p_ref at e3
      first | cases e3 | (split at e3 <;> cases e3)
  rw [if_pos z67] at e3
  simp only [Sum.inl.injEq, Prod.mk.injEq] at e3
  obtain ⟨rfl, rfl, rfl⟩ := e3
  rw [List.nil_append] at eG1
  rw [List.append_nil] at eG
  subst eG
  subst eG1
  have b := h.bls 8192 0 0 t1 o1 G (by omega) l2 e5
  have pn := ps_n h.2.2.2.2.2.1 t1 l2
  have n8 := h.2.2.2.1
  have c390 : c12 F ≤ 390 := by
    rw [eF, c12_cons, if_neg (show ¬ ((0 : Int32) = 1 ∨ (0 : Int32) = 2) by decide)]
    omega
  have cb : ∀ i, i ≤ F.length → cntF (bB F) i ≤ 390 := by
    intro i hi
    rw [cnt_fl F (fun q => decide (q.1 = 1 ∨ q.1 = 2)) (bB F) (fun j q hq => ?_) i hi]
    · exact Nat.le_trans (ftk_le F _ i) c390
    · have jl : j < F.length := (List.getElem?_eq_some_iff.mp hq).1
      have g : F.getD j (0, 0, 0, 0, 1) = q := by rw [List.getD_eq_getElem?_getD, hq]; rfl
      have kj := hW.k jl
      rw [g] at kj
      obtain ⟨M, hM⟩ := hW j jl
      have k37 := hM.k37
      unfold bB
      rw [kj]
      apply decide_eq_decide.mpr
      exact or_congr (nI_eq (b := 1) (by omega) (by omega)).symm (nI_eq (b := 2) (by omega) (by omega)).symm
  -- named nodes
  have vn : ∀ x, x ∈ vts F → ∃ q, x = q + 1 ∧ q < E.2.2.2.2 ∧ E.1.1 9 q = 64 := by
    intro x hx
    unfold vts at hx
    obtain ⟨x1, x2⟩ := List.mem_filter.mp hx
    obtain ⟨nd, n1, n2⟩ := List.mem_map.mp x1
    obtain ⟨j, hj⟩ := List.getElem?_of_mem n1
    have jl : j < F.length := (List.getElem?_eq_some_iff.mp hj).1
    have g : F.getD j (0, 0, 0, 0, 1) = nd := by rw [List.getD_eq_getElem?_getD, hj]; rfl
    have vt : vtF F j = x := by unfold vtF; rw [g]; exact n2
    have x0 : ¬ x = 0 := of_decide_eq_true x2
    obtain ⟨M, hM⟩ := hW j jl
    have ok := hM.ok
    have k37 := hM.k37
    rw [vt] at ok
    generalize hk : kK F j = k at ok k37
    have z : x = 0 ∨ nmN E.1 E.2.2.2.2 (vF F j) x := by
      rcases (show k = 0 ∨ k = 1 ∨ k = 2 ∨ k = 3 ∨ k = 4 ∨ k = 5 ∨ k = 6 ∨ k = 7 ∨ k = 8 ∨ k = 9 ∨ k = 10 ∨ k = 11 ∨ k = 12 ∨ k = 13 ∨ k = 14 ∨ k = 15 ∨ k = 16 ∨ k = 17 ∨ k = 18 ∨ k = 19 ∨ k = 20 ∨ k = 21 ∨ k = 22 ∨ k = 23 ∨ k = 24 ∨ k = 25 ∨ k = 26 ∨ k = 27 ∨ k = 28 ∨ k = 29 ∨ k = 30 ∨ k = 31 ∨ k = 32 ∨ k = 33 ∨ k = 34 ∨ k = 35 ∨ k = 36 by omega) with rfl | rfl | rfl | rfl | rfl | rfl | rfl | rfl | rfl | rfl | rfl | rfl | rfl | rfl | rfl | rfl | rfl | rfl | rfl | rfl | rfl | rfl | rfl | rfl | rfl | rfl | rfl | rfl | rfl | rfl | rfl | rfl | rfl | rfl | rfl | rfl | rfl <;> first | exact Or.inl ok.1 | exact Or.inr ok.1
    rcases z with z | ⟨q, q1, q2, q3, -⟩
    · exact absurd z x0
    · exact ⟨q, q1, q2, q3⟩
  have v95 : (vts F).length ≤ 4095 := by
    by_cases em : vts F = []
    · rw [em]; exact Nat.zero_le _
    · -- the first token is no name
      have w0 : bkW (E.1.1 9 0) := by
        rcases Decidable.em (bkW (E.1.1 9 0)) with y | y
        · exact y
        · exfalso
          have e6 := e5
          rw [show (8192 : Nat) = 8191 + 1 from rfl, p_blks_s, if_neg y] at e6
          have e6 : (some (.inl (0, 0, [])) : Option PX) = some (.inl (t1, o1, G)) := e6
          simp only [Option.some.injEq, Sum.inl.injEq, Prod.mk.injEq] at e6
          apply em
          rw [eF, ← e6.2.2]
          rfl
      obtain ⟨x0, hx0⟩ := List.exists_mem_of_ne_nil _ em
      obtain ⟨q0, -, q02, -⟩ := vn x0 hx0
      have T0 : 0 < E.2.2.2.2 := by omega
      have k0 : (tokN E.2.2.1 E.2.2.2.1 (ps E.2.2.1 E.2.2.2.1 0)).1.1 = 1 := by
        rcases w0 with y | y | y
        · exact h.w1 T0 (w := 0) (by omega) y
        · exact h.w1 T0 (w := 2) (by omega) y
        · exact h.w1 T0 (w := 4) (by omega) y
      have := cnt_le (f := E.2.2.1) (n := E.2.2.2.1) E.2.2.2.2 (1 :: vts F) (List.pairwise_cons.mpr ⟨fun x hx => ?_, w4.1⟩) (fun x hx => ?_)
      · have := h.ct
        rw [List.length_cons] at *
        omega
      · obtain ⟨q, q1, q2, q3⟩ := vn x hx
        have : ¬ q = 0 := fun z => by
          rw [z] at q3
          rcases w0 with y | y | y <;> rw [y] at q3 <;> exact absurd q3 (by decide)
        omega
      · rcases List.mem_cons.mp hx with y | y
        · rw [y]
          exact ⟨by omega, by omega, k0⟩
        · obtain ⟨q, q1, q2, q3⟩ := vn x y
          rw [q1]
          exact ⟨by omega, by omega, (h.nm q2 q3).1⟩
  have cv : ∀ i, i ≤ F.length → cntF (vB F) i ≤ 4095 := by
    intro i hi
    rw [cnt_fl F (fun q => decide (¬ q.2.2.2.1 = 0)) (vB F) (fun j q hq => ?_) i hi]
    · refine Nat.le_trans (ftk_le F _ i) (Nat.le_trans (Nat.le_of_eq ?_) v95)
      unfold vts
      rw [List.filter_map, List.length_map]
      rfl
    · have g : F.getD j (0, 0, 0, 0, 1) = q := by rw [List.getD_eq_getElem?_getD, hq]; rfl
      unfold vB vtF
      rw [g]
  exact ⟨⟨hW, fun j hj => by obtain ⟨M, hM⟩ := hW j hj; exact hM.k37, w2, l1, h7, fun j hj => by obtain ⟨M, hM⟩ := hW j hj; exact hM.at.2, cb, cv⟩, hN, w1, w3⟩
