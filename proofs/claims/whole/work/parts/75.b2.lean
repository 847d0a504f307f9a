/-! JUDGE: where it begins -/
theorem end_ps {E : EV} (hE : EOk E) {t : Nat} (ht : t ≤ E.2.2.2.2) (h67 : E.1.1 9 t = 67) : ps E.2.2.1 E.2.2.2.1 (t + 1) ≤ 8192 := by
  obtain ⟨e1, e2, e3, e4, e5, Ns, e6, e7, e8⟩ := hE
  rcases Nat.lt_or_ge t E.2.2.2.2 with z | z
  · exact Nat.le_trans (ps_n e4 (t + 1) (by omega)) e2
  · have : t = E.2.2.2.2 := by omega
    subst this
    have pn := ps_n e4 E.2.2.2.2 (Nat.le_refl _)
    have bl := (blk_le E.2.2.1 E.2.2.2.1 8192 _ pn).2
    have es : ps E.2.2.1 E.2.2.2.1 (E.2.2.2.2 + 1) = (tokN E.2.2.1 E.2.2.2.1 (ps E.2.2.1 E.2.2.2.1 E.2.2.2.2)).1.2.2 := rfl
    obtain ⟨a1, a2⟩ := e8 E.2.2.2.2 (Nat.le_refl _)
    rcases e3 with k | k
    · rw [es]
      unfold tokN at k ⊢
      by_cases c : (blk E.2.2.1 E.2.2.2.1 8192 (ps E.2.2.1 E.2.2.2.1 E.2.2.2.2)).2 = true
      · rw [if_pos c]; exact Nat.zero_le _
      · rw [if_neg c] at k ⊢
        rw [tkAt_0 k]
        omega
    · rw [if_neg (by rw [k]; decide)] at a2
      have := a2.1
      rw [h67] at this
      unfold ckd at this
      rw [k, if_neg (by decide), if_neg (by decide), if_neg (by decide), if_pos rfl] at this
      exact absurd this (by decide)
/-- what the reference's reader leaves, its names bounded -/
def rrS (m0 : yM) (r : PX) (E : EV) (v : Option Value) (m : yM) : Prop := NK m0 m ∧ m.1 61 0 = 0 ∧ GI m ∧ ∃ id, id < 20000 ∧ v = some (.int (nI id)) ∧ match r with
  | .inr (c, p) => m.1 58 3 = c ∧ 0 < c ∧ m.1 58 4 = p
  | .inl (_, _, F) => m.1 58 3 = 0 ∧ m.1 65 id = -1 ∧ m.1 68 id = -1 ∧ ∃ Rs, NR m Rs ∧ Rs.length ≤ 8192 ∧ offs Rs Rs.length ≤ 8192 ∧ RT E Rs m F.length (id, 0, F.length, F)
theorem p_text_67 {m0 : yM} {N n t o : Nat} {F : List ND} (e : p_text m0 N n = some (.inl (t, o, F))) : m0.1 9 t = 67 := by
  unfold p_text at e
  obtain ⟨G, e1, eF⟩ := pnode_some e
  obtain ⟨t1, o1, G1, G2, e2, e3, eG⟩ := po_some e1
  have e3 := Option.some.inj e3
  unfold p_end at e3
  rcases Decidable.em (m0.1 9 t1 = 67) with y | y
  · rw [if_pos y] at e3
    simp only [Sum.inl.injEq, Prod.mk.injEq] at e3
    rw [← e3.1]; exact y
  · exfalso
    rw [if_neg y] at e3
    unfold p_ref at e3
    first | cases e3 | (split at e3 <;> cases e3)
theorem c270s (xs : List Int32) (d : Nat) {E : EV} (hE : EOk E) {N n : Nat} {m : yM} {r : PX} (h : RRn E 0 0 0 [] m) (e : p_text E.1 N n = some r) : yC (xg xs) (d + dR 0 + 23) 270 [.ref 58] m (rrS E.2.1 r E) := by
  refine yC.mono (Nat.le_refl _) (fun v m' q => ?_) (c270 xs d hE h e)
  obtain ⟨id, i1, i2, i3⟩ := q
  rcases r with ⟨t, o, F⟩ | ⟨c, p⟩
  · have fl := p_text_len hE.1 e
    have pe := end_ps hE fl.2 (p_text_67 e)
    obtain ⟨R, hp, hR, hT⟩ := i3
    obtain ⟨a1, a2, a3, a4⟩ := hT (by omega) R m' (List.prefix_refl _) (FM.re m')
    rw [Nat.zero_add] at a4
    exact ⟨hR.1, hR.2.2.1.at0, hR.gi, id, i1, i2, hR.f0, a2, a3, R, hR.2.2.1, Nat.le_trans hR.2.2.2.1 pe, Nat.le_trans hR.2.2.2.2.1 pe, a4⟩
  · have i3 : RRe E c p m' := i3
    exact ⟨i3.1, i3.2.2.2.2.2.2, i3.2.2.2.2.2.1, id, i1, i2, i3.2.1, i3.2.2.1, i3.2.2.2.1⟩
/-- the judge's begin -/
theorem rx_start {E : EV} {Ns : List (List Int32)} (h : EN E Ns) (hT : TKok E.1 E.2.2.2.2) {N n t o : Nat} {F : List ND} (e : p_text E.1 N n = some (.inl (t, o, F))) {m : yM} {id : Nat} {Rs : List (List Int32)} (f3 : m.1 58 3 = 0) (f23 : m.1 58 23 = 0) (f29 : m.1 58 29 = 0) (f30 : m.1 58 30 = 0) (h65 : m.1 65 id = -1) (h68 : m.1 68 id = -1) (hR : NR m Rs) (hl : Rs.length ≤ 8192) (ho : offs Rs Rs.length ≤ 8192) (hRT : RT E Rs m F.length (id, 0, F.length, F)) : ∃ I : Nat → Nat, I 0 = id ∧ JO (Ns, Rs, F, I) ∧ RX (Ns, Rs, F, I) [] 0 (sg0 F) m := by
  obtain ⟨hF, hN, hW, hz⟩ := HF_of h hT e
  obtain ⟨I, i0, ix, inj⟩ := RT.all hRT hF.2.2.2.1
  refine ⟨I, i0, ⟨⟨h.1, h.2.1, h.2.2.1, hR.2.2.2, hl⟩, ho⟩, ⟨⟨hR, fun j hj => ?_, inj, by show m.1 65 (I 0) = -1; rw [i0]; exact h65, by show m.1 68 (I 0) = -1; rw [i0]; exact h68, hF.2.2.2.1⟩, ⟨⟨f3, Nat.zero_le _, Nat.zero_le _, f23, f30, ?_⟩, fun b x hb => by (cases hb), fun v x hv => by (cases hv)⟩, fun i hi => absurd hi.2.1 (Nat.not_lt_zero _)⟩, fun i hi => absurd hi.1 (Nat.not_lt_zero _), fun v hv => absurd hv (Nat.not_lt_zero _)⟩
  · have hj : j < F.length := hj
    obtain ⟨x1, ⟨d1, d2, d3, d4⟩, x3, x4, x5, x6⟩ := ix j hj
    obtain ⟨M, hM⟩ := hF.1 j hj
    refine ⟨x1, ?_, d2, d3, fun z => ?_, x3, x4, x5, fun q c hc => ⟨(hM.kin (List.mem_of_getElem? hc)).2.2.2.1, x6 q c hc⟩⟩
    · show m.1 62 (I j) = nI (kK F j)
      rw [d1]
      exact hF.1.k hj
    · have z : ¬ vtF F j = 0 := z
      obtain ⟨k, k1, k2, k3⟩ := d4 z
      have ok := hM.ok
      have k37 := hM.k37
      have nm : nmN E.1 E.2.2.2.2 (vF F j) (vtF F j) := by
        generalize kK F j = kk at ok k37
        have zz : vtF F j = 0 ∨ nmN E.1 E.2.2.2.2 (vF F j) (vtF F j) := by
          rcases (show kk = 0 ∨ kk = 1 ∨ kk = 2 ∨ kk = 3 ∨ kk = 4 ∨ kk = 5 ∨ kk = 6 ∨ kk = 7 ∨ kk = 8 ∨ kk = 9 ∨ kk = 10 ∨ kk = 11 ∨ kk = 12 ∨ kk = 13 ∨ kk = 14 ∨ kk = 15 ∨ kk = 16 ∨ kk = 17 ∨ kk = 18 ∨ kk = 19 ∨ kk = 20 ∨ kk = 21 ∨ kk = 22 ∨ kk = 23 ∨ kk = 24 ∨ kk = 25 ∨ kk = 26 ∨ kk = 27 ∨ kk = 28 ∨ kk = 29 ∨ kk = 30 ∨ kk = 31 ∨ kk = 32 ∨ kk = 33 ∨ kk = 34 ∨ kk = 35 ∨ kk = 36 by omega) with rfl | rfl | rfl | rfl | rfl | rfl | rfl | rfl | rfl | rfl | rfl | rfl | rfl | rfl | rfl | rfl | rfl | rfl | rfl | rfl | rfl | rfl | rfl | rfl | rfl | rfl | rfl | rfl | rfl | rfl | rfl | rfl | rfl | rfl | rfl | rfl | rfl <;> first | exact Or.inl ok.1 | exact Or.inr ok.1
        exact zz.resolve_left z
      obtain ⟨q, q1, q2, q3, q4⟩ := nm
      obtain ⟨w1, jj, j1, j2, j3, j4⟩ := h.nm q2 q3
      have eq : (ndq F j).2.2.2 - 1 = q := by
        show vtF F j - 1 = q
        omega
      rw [eq] at k2
      refine ⟨jj, k, j1, j2, k1, by show vF F j = nI jj; rw [q4]; exact j4, k3, ?_, ?_⟩
      · show Ns.getD jj [] = Rs.getD k []
        rw [j3, k2]
      · show nmc (Ns.getD jj [])
        rw [j3]
        exact wd_nmc h.2.2.2.2.1 w1
  · rw [f29, if_neg (fun z => absurd z.1 (Nat.lt_irrefl 0))]
