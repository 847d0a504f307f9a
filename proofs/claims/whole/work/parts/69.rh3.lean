/-! THE READER: blocks and the text of the class -/
def p_hd (m0 : yM) (w : Int32) (t o : Nat) : PX := if w = 0 then p_bind (p_exp m0 186 t o) (p_simple m0) else .inl (t, o, [])
def p_sects (m0 : yM) : Nat → Nat → Nat → PX
  | 0 => fun t o => .inl (t, o, [])
  | n + 1 => fun t o => if m0.1 9 t < 6 ∨ 8 < m0.1 9 t then .inl (t, o, []) else p_bind (p_sect m0 t o) (p_sects m0 n)
def p_bdy (m0 : yM) (N n t o : Nat) : Option PX := if m0.1 9 t = 37 then some (p_lad m0 t o) else pT m0 N n 0 0 t o
def p_blk (m0 : yM) (N n t o : Nat) : Option PX := match p_step m0 t o with
  | .inr e => some (.inr e)
  | .inl (u, o1, _) => pnode (1 + (m0.1 9 t - 0) / 2) (m0.1 10 t) (m0.1 11 u) (u + 1) (po (po (some (p_bind (p_bind (p_exp m0 64 u o1) (p_hd m0 (m0.1 9 t))) (p_sects m0 8192))) (p_bdy m0 N n)) (fun t' o' => some (p_exp m0 (m0.1 9 t + 1) t' o')))
abbrev bkW (k : Int32) : Prop := k = 0 ∨ k = 2 ∨ k = 4
theorem bkW_gk {k : Int32} (h : bkW k) : gk k ∧ gk (k + 1) := by
  rcases h with h | h | h <;> rw [h] <;> decide
theorem RCe.nb {m0 m : yM} {T : Nat} {c p : Int32} (h : RCe m0 T c p m) : ¬ bkW (m.1 17 5) := by
  rcases h.now with y | y <;> rw [y] <;> decide
theorem RCe.n8 {m0 m : yM} {T : Nat} {c p : Int32} (h : RCe m0 T c p m) : 8 < m.1 17 5 := by
  rcases h.now with y | y <;> rw [y] <;> decide
theorem bd0 {xs : List Int32} {d : Nat} {m0 : yM} {T : Nat} (hT : TKok m0 T) {rc : SR} (h : okBd xs d m0 T rc) {X r : PX} {m : yM} (e : po (some X) (rc 0 0) = some r) (hm : RC m0 T X m) : yC (xg xs) (d + dA 0 + 7) 93 [.ref 17] m (fun r' m' => r' = none ∧ RC m0 T r m') := by
  rcases X with ⟨t, o, F⟩ | ⟨c, p⟩
  · have hm1 : RCo m0 T t o F m := hm
    have go := hm1.2.2.2.2.2.2.1
    refine h.x hT (O := o) (fun t1 o1 F1 u => ?_) (fun _ => ?_) (by omega) e hm
    · simp only [Sum.inl.injEq, Prod.mk.injEq] at u
      omega
    · have := dA_m (Nat.zero_le o)
      omega
  · exact h.x hT (O := 0) (opn.e _ _) (fun _ => Nat.le_refl _) (by omega) e hm
theorem c73b (xs : List Int32) (d : Nat) (m : yM) : yC (xg xs) (d + 1) 73 [.ref 17] m (fun r m' => r = some (.int (if bkW (m.1 17 5) then 1 else 0)) ∧ m' = m) := by
  refine w73_0 xs d m _ ?_
  generalize m.1 17 5 = k
  refine ⟨fun h => ⟨?_, rfl⟩, fun h1 => ⟨fun h => ⟨?_, rfl⟩, fun h2 => ⟨fun h => ⟨?_, rfl⟩, fun h => ⟨?_, rfl⟩⟩⟩⟩
  all_goals first | (simp [bkW, h]; done) | (simp [bkW, h, h1, h2]; done)
theorem c74 (xs : List Int32) (d : Nat) {m0 m : yM} {T N n t o : Nat} {F : List ND} {r : PX} (hT : TKok m0 T) (h : RCo m0 T t o F m) (hw : bkW (m0.1 9 t)) (e : p_blk m0 N n t o = some r) : yC (xg xs) (d + dA 0 + 8) 74 [.ref 17] m (fun r' m' => r' = none ∧ RC m0 T (aft F r) m') := by
  obtain ⟨g1, g2⟩ := bkW_gk hw
  have lt : t < T := h.lt hT g1 rfl
  have hB := (okT xs d hT N n).1
  unfold p_blk at e
  refine w74_0 xs (d + dA 0 + 7) m _ ⟨by decide, ?_⟩
  rw [h.now]
  refine y_ex (c75o xs d hT h (1 + (m0.1 9 t - 0) / 2) 0 0) (by omega) (fun i m1 q1 => ?_)
  obtain ⟨hi, q1⟩ := q1
  have hi1 := hi.1
  refine y_nx (c76 xs d hT q1 lt) (by omega) (fun m2 q2 => ?_)
  refine ⟨q2.x4 hT, x_in_nI (by omega) (by decide), ?_⟩
  rw [nI_clamp (by omega)]
  rw [p_bind_aft] at q2
  rcases hs : p_step m0 t o with ⟨u, o1, G⟩ | ⟨c, p⟩
  · obtain ⟨j1, j2, j3⟩ := p_step_o hs
    subst j3
    rw [hs] at e q2
    dsimp only at e
    have q2 : RCo m0 T u o1 (F ++ [(1 + (m0.1 9 t - 0) / 2, m0.1 10 t, 0, 0, 1)] ++ []) m2 := q2
    rw [List.append_nil] at q2
    rw [(q2.at hT).2.2.1]
    have q3 := q2.vl hi (m0.1 11 u) (u + 1)
    obtain ⟨y, e1, hr⟩ := pnode_ex e
    obtain ⟨x5, h5⟩ := po_ex e1
    rw [h5, po_t] at e1
    have e1 := Option.some.inj e1
    generalize hP : F ++ [(1 + (m0.1 9 t - 0) / 2, m0.1 10 t, m0.1 11 u, u + 1, 1)] = P at q3
    have e121 : ∀ m', RC m0 T (aft P x5) m' → yP (xg xs) (d + dA 0 + 7 + 1) 74 121 [(0, .ref 17), (1, .int (m0.1 9 t)), (2, .int (nI i))] [] m' (fun r' m' => r' = none ∧ RC m0 T (aft F r) m') := by
      intro m' q
      refine w74_121 xs (d + dA 0 + 7) _ _ m' _ ?_
      refine y_nx (c77 xs d hT q _ g2) (by omega) (fun m3 q3 => ?_)
      rw [p_bind_F, e1, ← hP] at q3
      rw [hr]
      exact y_fin (c85r xs d q3 hi) (by omega)
    have e101 : ∀ m', RC m0 T (aft P (p_bind (p_bind (p_exp m0 64 u o1) (p_hd m0 (m0.1 9 t))) (p_sects m0 8192))) m' → yP (xg xs) (d + dA 0 + 7 + 1) 74 101 [(0, .ref 17), (1, .int (m0.1 9 t)), (2, .int (nI i))] [] m' (fun r' m' => r' = none ∧ RC m0 T (aft F r) m') := by
      intro m' q
      revert h5 q
      generalize p_bind (p_bind (p_exp m0 64 u o1) (p_hd m0 (m0.1 9 t))) (p_sects m0 8192) = x4
      intro h5 q
      refine w74_101 xs (d + dA 0 + 7) _ _ m' _ ⟨fun z => ?_, fun z => ?_⟩
      · have h6 : po (some x4) (pT m0 N n 0 0) = some x5 := by
          rw [← h5]
          rcases x4 with ⟨t1, o1, G1⟩ | e
          · have z1 : ¬ m0.1 9 t1 = 37 := fun w => z ((q.nowA rfl).trans w)
            show Option.map (aft G1) (pT m0 N n 0 0 t1 o1) = Option.map (aft G1) (p_bdy m0 N n t1 o1)
            unfold p_bdy
            rw [if_neg z1]
          · rfl
        exact y_nx (bd0 hT hB (pomap P h6) q) (Nat.le_refl _) e121
      · obtain ⟨t1, o2, G1, rfl, z1, lt1, h1, -⟩ := q.yes hT (by decide) z
        have h5 : Option.map (aft G1) (p_bdy m0 N n t1 o2) = some x5 := h5
        unfold p_bdy at h5
        rw [if_pos z1] at h5
        simp only [Option.map_some, Option.some.injEq] at h5
        refine y_nx (c86 xs d hT h1 lt1) (by omega) (fun m3 q3 => e121 m3 ?_)
        rw [← h5, aft_aft]
        exact q3
    have lp : ∀ (k j : Nat) (y : PX) (m' : yM), j + k = 8192 → p_bind y (p_sects m0 k) = p_bind (p_bind (p_exp m0 64 u o1) (p_hd m0 (m0.1 9 t))) (p_sects m0 8192) → RC m0 T (aft P y) m' → yP (xg xs) (d + dA 0 + 7 + 1) 74 66 [(0, .ref 17), (1, .int (m0.1 9 t)), (2, .int (nI i)), (3, .int (nI j))] [] m' (fun r' m' => r' = none ∧ RC m0 T (aft F r) m') := by
      intro k
      induction k with
      | zero =>
        intro j y m' hj hy q
        have e0 : p_bind y (p_sects m0 0) = y := p_bind_0 y
        rw [e0] at hy
        exact w74_66 xs (d + dA 0 + 7) _ _ _ m' _ ⟨fun _ => e101 m' (hy ▸ q), fun z => absurd (nI_le (a := 8192) (by omega) (by omega)) z⟩
      | succ k ih =>
        intro j y m' hj hy q
        have ex : m'.1 17 5 < 6 ∨ 8 < m'.1 17 5 → yP (xg xs) (d + dA 0 + 7 + 1) 74 101 [(0, .ref 17), (1, .int (m0.1 9 t)), (2, .int (nI i))] [] m' (fun r' m' => r' = none ∧ RC m0 T (aft F r) m') := by
          intro hk
          refine e101 m' ?_
          have e1 : p_bind y (p_sects m0 (k + 1)) = y := p_bind_u (fun t1 o1 G e => by
            have e2 := q.nowA e
            show (if m0.1 9 t1 < 6 ∨ 8 < m0.1 9 t1 then _ else _) = _
            rw [← e2, if_pos hk])
          rw [e1] at hy
          exact hy ▸ q
        refine w74_66 xs (d + dA 0 + 7) _ _ _ m' _ ⟨fun z => absurd z (nI_ge (b := 8192) (by omega) (by decide)), fun _ => ⟨fun z => ex (Or.inl z), fun z1 => ⟨fun z => ex (Or.inr z), fun z2 => ?_⟩⟩⟩
        have hg : gk (m'.1 17 5) := gk_of (fun w => z2 (Int32.lt_trans (by decide) w))
        obtain ⟨t1, o2, G1, rfl, e1, lt1, h1, -⟩ := q.yes hT hg rfl
        refine y_nx (c80 xs d hT h1 lt1) (by omega) (fun m5 q5 => ?_)
        rw [nI_1]
        refine ih (j + 1) (aft G1 (p_sect m0 t1 o2)) m5 (by omega) ?_ ?_
        · rw [← hy, p_bind_F, p_bind_aft]
          show _ = aft G1 (if m0.1 9 t1 < 6 ∨ 8 < m0.1 9 t1 then _ else _)
          rw [e1, if_neg (fun w => w.elim z1 z2)]
        · rw [aft_aft]
          rw [p_bind_aft] at q5
          exact q5
    have e64 : ∀ m', RC m0 T (aft P (p_bind (p_exp m0 64 u o1) (p_hd m0 (m0.1 9 t)))) m' → yP (xg xs) (d + dA 0 + 7 + 1) 74 64 [(0, .ref 17), (1, .int (m0.1 9 t)), (2, .int (nI i))] [] m' (fun r' m' => r' = none ∧ RC m0 T (aft F r) m') := by
      intro m' q
      refine w74_64 xs (d + dA 0 + 7) _ _ m' _ ?_
      exact lp 8192 0 _ m' (by omega) rfl q
    refine y_nx (c77 xs d hT (X := .inl (u, o1, P)) q3 64 (by decide)) (by omega) (fun m3 q4 => ?_)
    rw [p_bind_aft] at q4
    refine ⟨fun z => e64 m3 ?_, fun z => ?_⟩
    · have e2 : p_bind (p_exp m0 64 u o1) (p_hd m0 (m0.1 9 t)) = p_exp m0 64 u o1 := p_bind_u (fun t1 o1 G _ => by unfold p_hd; rw [if_neg z])
      rw [e2]
      exact q4
    · refine y_nx (c77 xs d hT q4 186 (by decide)) (by omega) (fun m4 q5 => ?_)
      refine y_nx (c79 xs d hT q5) (by omega) (fun m5 q6 => e64 m5 ?_)
      have e2 : p_bind (p_exp m0 64 u o1) (p_hd m0 (m0.1 9 t)) = p_bind (p_bind (p_exp m0 64 u o1) (p_exp m0 186)) (p_simple m0) := by
        rw [p_bind_a]
        congr 1
        funext t1 o1
        unfold p_hd
        rw [if_pos z]
      rw [e2]
      rw [p_bind_F, p_bind_F] at q6
      exact q6
  · rw [hs] at e q2
    have e := Option.some.inj e
    subst e
    have q2 : RCe m0 T c p m2 := q2
    have q3 : RC m0 T (.inr (c, p)) (y_si m2 5 i (m2.1 11 (m2.1 17 4).toNatClampNeg)) := q2.tr _ (by omega)
    have e64 : ∀ m', RCe m0 T c p m' → yP (xg xs) (d + dA 0 + 7 + 1) 74 64 [(0, .ref 17), (1, .int (m0.1 9 t)), (2, .int (nI i))] [] m' (fun r' m' => r' = none ∧ RC m0 T (.inr (c, p)) m') := by
      intro m' q
      refine w74_64 xs (d + dA 0 + 7) _ _ m' _ ?_
      have e101 : yP (xg xs) (d + dA 0 + 7 + 1) 74 101 [(0, .ref 17), (1, .int (m0.1 9 t)), (2, .int (nI i))] [] m' (fun r' m' => r' = none ∧ RC m0 T (.inr (c, p)) m') := by
        refine w74_101 xs (d + dA 0 + 7) _ _ m' _ ⟨fun _ => ?_, fun z => absurd z (q.ne (by decide))⟩
        refine y_nx (c93e xs d hT q) (by omega) (fun m3 q3 => ?_)
        refine w74_121 xs (d + dA 0 + 7) _ _ m3 _ ?_
        refine y_nx (c77 xs d hT (X := .inr (c, p)) q3 _ g2) (by omega) (fun m4 q4 => ?_)
        exact y_fin (c85e xs d q4 hi1) (by omega)
      exact w74_66 xs (d + dA 0 + 7) _ _ _ m' _ ⟨fun _ => e101, fun _ => ⟨fun _ => e101, fun _ => ⟨fun _ => e101, fun z => absurd q.n8 z⟩⟩⟩
    refine y_nx (c77 xs d hT q3 64 (by decide)) (by omega) (fun m3 q4 => ?_)
    refine ⟨fun z => e64 m3 q4, fun z => ?_⟩
    refine y_nx (c77 xs d hT (X := .inr (c, p)) q4 186 (by decide)) (by omega) (fun m4 q5 => ?_)
    exact y_nx (c79 xs d hT q5) (by omega) (fun m5 q6 => e64 m5 q6)
def p_blks (m0 : yM) (N n : Nat) : Nat → Nat → Nat → Option PX
  | 0 => unit_
  | q + 1 => fun t o => if bkW (m0.1 9 t) then po (p_blk m0 N n t o) (p_blks m0 N n q) else unit_ t o
def p_end (m0 : yM) (t o : Nat) : PX := if m0.1 9 t = 67 then .inl (t, o, []) else p_ref m0 6 t
def p_beg (m0 : yM) : PX := if m0.1 9 0 = 68 then .inr (m0.1 11 0, m0.1 10 0) else .inl (0, 0, [])
def p_text (m0 : yM) (N n : Nat) : Option PX := pnode 0 0 0 0 (po (po (some (p_beg m0)) (p_blks m0 N n 8192)) (fun t o => some (p_end m0 t o)))
def rdQ (m0 : yM) (r : PX) (v : Option Value) (m' : yM) : Prop := Kd m0 m' ∧ match r with
  | .inl (_, _, F) => v = some (.int 0) ∧ TF F m'
  | .inr (c, p) => v = some (.int c) ∧ m'.1 17 0 = p ∧ ¬ c = 0
theorem c78p (xs : List Int32) (d : Nat) {m0 m : yM} {T t o : Nat} {F : List ND} (hT : TKok m0 T) (h : RCo m0 T t o F m) (why : Int32) (hw : ¬ why = 0) : yC (xg xs) (d + 1) 78 [.ref 17, .int why] m (fun r m' => r = none ∧ (RCe m0 T why (m0.1 10 t) m' ∧ m'.1 17 5 = 69)) := by
  obtain ⟨kd, g4, gT, g5, g68, g6, go, g3, gF⟩ := h
  have hT1 := hT.1
  refine w78_0 xs d _ m _ ⟨fun z => absurd g3 z, fun _ => ⟨fun _ => ?_, fun z => absurd (g5.symm.trans z) g68⟩⟩
  have e10 : m.1 10 = m0.1 10 := kd.1 10 (by decide)
  refine w78_33 xs d _ m _ ?_
  rw [g4, nI_clamp (by omega), e10]
  obtain ⟨z, z1, ⟨z2, -⟩, -⟩ := gF
  refine ⟨x_in_nI (by omega) (by decide), rfl, ⟨((kd.si (Or.inr rfl)).si (Or.inr rfl)).si (Or.inr rfl), ⟨t, gT, by simp [y_si_at, g4]⟩, hw, Or.inl ⟨by simp [y_si_at], by simp [y_si_at], by simp [y_si_at]⟩, z, by simp [y_si_at, z1], z2⟩, by simp [y_si_at]⟩
theorem c71 (xs : List Int32) (d : Nat) {m : yM} {T N n : Nat} {r : PX} (hT : TKok m T) (e : p_text m N n = some r) : yC (xg xs) (d + dA 0 + 9) 71 [.ref 17] m (rdQ m r) := by
  unfold p_text at e
  obtain ⟨y, e1, hr⟩ := pnode_ex e
  obtain ⟨x5, h5⟩ := po_ex e1
  rw [h5, po_t] at e1
  have e1 := Option.some.inj e1
  have hT1 := hT.1
  refine w71_0 xs (d + dA 0 + 8) m _ ?_
  generalize hm1 : y_si (y_si (y_si (y_si (y_si (y_si m 17 3 0) 17 0 (-1)) 17 6 0) 17 4 0) 17 5 (m.1 9 0)) 2 5 0 = m1
  have kd1 : Kd m m1 := by
    rw [← hm1]
    exact (((((Kd.si ⟨fun _ _ => rfl, rfl⟩ (Or.inr rfl)).si (Or.inr rfl)).si (Or.inr rfl)).si (Or.inr rfl)).si (Or.inr rfl)).si (by omega)
  have a2 : m1.1 2 5 = nI 0 := by rw [← hm1]; simp [y_si_at, nI_0]
  have a4 : m1.1 17 4 = nI 0 := by rw [← hm1]; simp [y_si_at, nI_0]
  have a5 : m1.1 17 5 = m.1 9 0 := by rw [← hm1]; simp [y_si_at]
  have a6 : m1.1 17 6 = nI 0 := by rw [← hm1]; simp [y_si_at, nI_0]
  have a3 : m1.1 17 3 = 0 := by rw [← hm1]; simp [y_si_at]
  have Re : ∀ (c p : Int32) m' i, ndI [] i → r = .inr (c, p) → RCe m T c p m' → m'.1 17 5 = 69 → yP (xg xs) (d + dA 0 + 8 + 1) 71 93 [(0, .ref 17), (1, .int (nI i))] [] m' (rdQ m r) := by
    intro c p m' i hi er q q69
    have hi1 := hi.1
    have s : m'.1 17 3 = c ∧ m'.1 17 0 = p := by
      rcases q.2.2.2.1 with w | w
      · exact w.2
      · exact absurd (q69.symm.trans w.1) (by decide)
    refine w71_93 xs (d + dA 0 + 8) _ m' _ ?_
    have h85 : yC (xg xs) (d + 1) 85 [.ref 2, .int (nI i)] m' (fun r m2 => r = none ∧ (Kd m m2 ∧ m2.1 17 3 = c ∧ m2.1 17 0 = p)) := by
      refine w85_0 xs d _ m' _ ?_
      rw [nI_clamp (by omega)]
      exact ⟨x_in_nI (by omega) (by decide), rfl, q.1.si (by omega), by rw [y_si_at, if_neg (by omega)]; exact s.1, by rw [y_si_at, if_neg (by omega)]; exact s.2⟩
    refine y_nx h85 (by omega) (fun m3 q3 => ?_)
    rw [er]
    refine ⟨q3.1, ?_, q3.2.2, q.2.2.1⟩
    rw [q3.2.1]
  have R1 : ∀ m', RC m T (aft [(0, 0, 0, 0, 1)] x5) m' → ∀ i, ndI [] i → yP (xg xs) (d + dA 0 + 8 + 1) 71 78 [(0, .ref 17), (1, .int (nI i))] [] m' (rdQ m r) := by
    intro m' q i hi
    have hi1 := hi.1
    rcases x5 with ⟨t1, o1, G⟩ | ⟨c, p⟩
    · have q1 : RCo m T t1 o1 ([(0, 0, 0, 0, 1)] ++ G) m' := q
      have e1 : aft G (p_end m t1 o1) = y := e1
      unfold p_end at e1
      refine w71_78 xs (d + dA 0 + 8) _ m' _ ⟨fun z => ?_, fun z => ?_⟩
      · rw [if_pos (q1.now.symm.trans z)] at e1
        simp only [aft, List.append_nil] at e1
        refine w71_93 xs (d + dA 0 + 8) _ m' _ ?_
        have q2 : RCo m T t1 o1 ([] ++ (0, 0, 0, 0, 1) :: G) m' := q1
        refine y_nx (c85o xs d q2 hi) (by omega) (fun m3 q3 => ?_)
        rw [hr, ← e1]
        refine ⟨q3.1, ?_, q3.2.2.2.2.2.2.2.2⟩
        rw [q3.2.2.2.2.2.2.2.1]
      · rw [if_neg (fun w => z (q1.now.trans w))] at e1
        have e1 : Sum.inr (6, m.1 10 t1) = y := e1
        refine y_nx (c78p xs d hT q1 6 (by decide)) (by omega) (fun m2 q2 => ?_)
        exact Re _ _ m2 i hi (by rw [hr, ← e1]; rfl) q2.1 q2.2
    · have q1 : RCe m T c p m' := q
      have e1 : Sum.inr (c, p) = y := e1
      refine w71_78 xs (d + dA 0 + 8) _ m' _ ⟨fun z => ?_, fun z => ?_⟩
      · rcases q1.now with w | w
        · exact absurd (z.symm.trans w) (by decide)
        · exact absurd (z.symm.trans w) (by decide)
      · refine y_nx (c78s xs d hT q1 6) (by omega) (fun m2 q2 => ?_)
        exact Re _ _ m2 i hi (by rw [hr, ← e1]; rfl) q2.1 q2.2
  have lp : ∀ (k j : Nat) (z : PX) (m' : yM) (i : Nat), ndI [] i → j + k = 8192 → po (some z) (p_blks m N n k) = some x5 → RC m T (aft [(0, 0, 0, 0, 1)] z) m' → yP (xg xs) (d + dA 0 + 8 + 1) 71 54 [(0, .ref 17), (1, .int (nI i)), (2, .int (nI j))] [] m' (rdQ m r) := by
    intro k
    induction k with
    | zero =>
      intro j z m' i hi hj hz q
      have ez : z = x5 := by
        rcases z with ⟨t1, o1, G⟩ | e
        · have hz : Option.map (aft G) (unit_ t1 o1) = some x5 := hz
          simp only [unit_, Option.map_some, aft, List.append_nil, Option.some.injEq] at hz
          exact hz
        · exact Option.some.inj hz
      subst ez
      exact w71_54 xs (d + dA 0 + 8) _ _ m' _ ⟨fun _ => R1 m' q i hi, fun z => absurd (nI_le (a := 8192) (by omega) (by omega)) z⟩
    | succ k ih =>
      intro j z m' i hi hj hz q
      refine w71_54 xs (d + dA 0 + 8) _ _ m' _ ⟨fun z => absurd z (nI_ge (b := 8192) (by omega) (by decide)), fun _ => ?_⟩
      refine y_ci (c73b xs d m') (by omega) ?_
      by_cases hs : bkW (m'.1 17 5)
      · rw [if_pos hs]
        refine ⟨fun w => absurd w (by decide), fun _ => ?_⟩
        obtain ⟨t1, o1, G, rfl, e2, lt1, h1, -⟩ := q.yes hT (bkW_gk hs).1 rfl
        have hz : Option.map (aft G) (if bkW (m.1 9 t1) then po (p_blk m N n t1 o1) (p_blks m N n k) else unit_ t1 o1) = some x5 := hz
        rw [← e2] at hs
        rw [if_pos hs] at hz
        obtain ⟨x, hx⟩ : ∃ x, p_blk m N n t1 o1 = some x := by
          rcases hb : p_blk m N n t1 o1 with _ | x
          · rw [hb] at hz; cases hz
          · exact ⟨x, rfl⟩
        rw [hx] at hz
        refine y_nx (c74 xs d hT h1 hs hx) (Nat.le_refl _) (fun m2 q2 => ?_)
        rw [nI_1]
        refine ih (j + 1) (aft G x) m2 i hi (by omega) ?_ ?_
        · rw [po_F, ← hz]
        · rw [aft_aft]
          exact q2
      · rw [if_neg hs]
        refine ⟨fun _ => R1 m' ?_ i hi, fun w => absurd rfl w⟩
        have ez : z = x5 := by
          rcases z with ⟨t1, o1, G⟩ | e
          · have hz : Option.map (aft G) (if bkW (m.1 9 t1) then po (p_blk m N n t1 o1) (p_blks m N n k) else unit_ t1 o1) = some x5 := hz
            have e2 : m'.1 17 5 = m.1 9 t1 := q.nowA rfl
            rw [if_neg (by rw [← e2]; exact hs)] at hz
            simp only [unit_, Option.map_some, aft, List.append_nil, Option.some.injEq] at hz
            exact hz
          · exact Option.some.inj hz
        rw [← ez]
        exact q
  by_cases hb : m.1 9 0 = 68
  · have eb : p_beg m = .inr (m.1 11 0, m.1 10 0) := by unfold p_beg; rw [if_pos hb]
    have T0 : T = 0 := by
      rcases Nat.eq_zero_or_pos T with w | w
      · exact w
      · exact absurd hb (hT.2.2 0 w).2.1
    have c0 : ¬ m.1 11 0 = 0 := by
      rw [T0] at hT
      rcases hT.2.1 with w | w
      · rw [w] at hb; exact absurd hb (by decide)
      · exact w.2
    have q72 : yC (xg xs) (d + 1) 72 [.ref 2, .int 0, .int 0, .int 0] m1 (fun r m' => ∃ i, r = some (.int (nI i)) ∧ (ndI [] i ∧ RCe m T (m.1 11 0) (m.1 10 0) m')) := by
      refine yC.mono (Nat.le_refl _) ?_ (c72g xs d m1 0 0 0 0 a2 (by omega))
      rintro r m2 ⟨rfl, rfl⟩
      refine ⟨0, rfl, ⟨by omega, fun _ => rfl⟩, kd1.tr, ⟨0, by omega, by simp [trAdd_at, a4]⟩, c0, Or.inr ⟨by simp [trAdd_at, a5, hb], by simp [trAdd_at, a3], by rw [T0]; simp [trAdd_at, a4], by rw [T0]; exact hb, by rw [T0], by rw [T0]⟩, 1, by simp [trAdd_at], by omega⟩
    refine y_ex q72 (by omega) (fun i m2 q2 => ?_)
    obtain ⟨hi, q2⟩ := q2
    refine lp 8192 0 (p_beg m) m2 i hi (by omega) h5 ?_
    rw [eb]
    exact q2
  · have eb : p_beg m = .inl (0, 0, []) := by unfold p_beg; rw [if_neg hb]
    have q0 : RCo m T 0 0 [] m1 := ⟨kd1, a4, by omega, a5, hb, a6, by omega, a3, 0, a2, ⟨by omega, fun i hi => absurd hi (by omega)⟩, fun _ => ⟨rfl, fun i q hq => by simp at hq⟩⟩
    refine y_ex (c72o xs d q0 0 0 0 0) (by omega) (fun i m2 q2 => ?_)
    obtain ⟨hi, q2⟩ := q2
    refine lp 8192 0 (p_beg m) m2 i hi (by omega) h5 ?_
    rw [eb]
    exact q2
