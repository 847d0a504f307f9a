/-! THE REFERENCE'S WRITER: FOR -/
theorem c377 (xs : List Int32) (D : Nat) {m0 : yM} {T : Nat} {J : JV} {s : SU} (hS : HS m0 T J.2.2.1 s) {N n u : Nat} (hW : TW m0 T J.2.2.1 N n) (k : kK J.2.2.1 n = 19) (n0 : 0 < n) {bd : Nat → Nat → List IT} (hb : bodR xs (D + 3) J s u bd (bdF s.1 n)) (hq : ∀ p x, x ∈ bd (bdF s.1 n) p → QX J.2.2.1 n (bdF s.1 n) (p + (bd (bdF s.1 n) p).length) x) {C : List IT} {m : yM} (h : WR J s u C m) : yC (xg xs) (D + 4) 377 [.ref 58, .int (nI (J.2.2.2 n))] m (fun r m' => r = none ∧ RO J (C ++ res (mX n) (nI (C.length - u + 9 + (bd (bdF s.1 n) (C.length - u + 4)).length)) (fr1 s.1 n ++ ((13, s.1.2.2.2.2 n, nI (C.length - u + 9 + (bd (bdF s.1 n) (C.length - u + 4)).length), 0, 0, 0) :: (bd (bdF s.1 n) (C.length - u + 4) ++ fr2 s.1 n (C.length - u))))) m' ∧ KF m m') := by
  have at' := hW.at
  have hn : n < J.2.2.1.length := by omega
  have hu := h.2.2.1
  have h0 := h.1
  obtain ⟨hF, k0, kL, kb, bm⟩ := k19_s hS hW k
  have zb := hW.kin bm
  have nx : ¬ xNm J.2.2.1 n := fun z => by have := z.1; omega
  obtain ⟨v, v1, v2, v3⟩ := (hS.v hn).2.2.2.1 k
  have cn1 := hF.1
  have cz : clV s.1 n = (vD s.1 v).2.2.2 := by unfold clV; rw [v1, nI_clamp (by have := (h0.x v2).1; have := h0.b.1.2.2.1; omega)]
  have ct : tyV s.1 (s.1.2.2.2.1 n).toNatClampNeg = s.1.2.2.2.1 (vD s.1 v).2.1 := by
    rw [v1, nI_clamp (by have := (h0.x v2).1; have := h0.b.1.2.2.1; omega)]
    unfold tyV
    rw [if_neg (by rw [v3]; decide)]
  have hq := hq (C.length - u + 4)
  generalize hbn : bdF s.1 n = b at *
  generalize hp : C.length - u = p at *
  generalize hB : bd b (p + 4) = B at *
  have x0 := h0.t.x hn
  have c0 := h0.t.c hn
  have l66 : m.1 66 (J.2.2.2 n) = nI (J.2.2.2 (n + 1)) := by rw [(h0.t.2.1 n hn).2.2.2.2.2.1, k0]; rfl
  have e85 : m.1 85 (J.2.2.2 n) = nI v := by rw [(h0.n hn nx).2.1 (by omega)]; exact v1
  have v47 := (h0.x v2).2.1
  have xv : x_in (nI v) 4700 = true := x_in_nI v47 (by decide)
  have cv : (nI v).toNatClampNeg = v := nI_clamp (by omega)
  have e64 : m.1 64 (J.2.2.2 (n + 1)) = s.1.2.2.2.1 (n + 1) := by rw [(h0.t.2.1 _ cn1.1).2.2.2.1 cn1.2.2.2.1]; exact cn1.2.2.2.2.symm
  refine w377_0 xs (D + 3) _ m _ ⟨x0, x0, ?_⟩
  rw [c0, l66, h0.t.c cn1.1, e64, e85, cv]
  refine ⟨h0.t.x cn1.1, c369k xs D (by omega) h.2.1 (fun m1 o1 e1 => ⟨xv, ?_⟩)⟩
  rw [((h0.kf e1).x v2).2.2.2.2.1]
  refine c369k xs D (by omega) o1 (fun m2 o2 e2 => ⟨x0, ?_⟩)
  have e12 := e1.tr e2
  refine yC.mono (by omega) (fun r m3 q => ⟨_, q.1, ?_⟩) (c351 xs D (h0.kf e12).t hn hF)
  obtain ⟨-, rfl⟩ := q
  rw [(h0.kf e12).o hn (by omega)]
  refine c369j xs D (by omega) o2 (fun m4 o4 e4 => ⟨x0, ?_⟩)
  have e14 := e12.tr e4
  rw [(h0.kf e14).o hn (by omega)]
  refine c369j xs D (by omega) o4 (fun m5 o5 e5 => ⟨x0, ?_⟩)
  have e15 := e14.tr e5
  have l67 : m5.1 67 (J.2.2.2 n) = nI (J.2.2.2 b) := by rw [((h0.kf e15).t.2.1 n hn).2.2.2.2.2.2.1, kL]; rfl
  have ef : C ++ [j1 0 (s.1.2.2.2.1 (n + 1))] ++ [j1 2 (vD s.1 v).2.2.2] ++ [j3 12 (s.1.2.2.2.2 n) (tms s.1 n).toInt32 0] = C ++ fr1 s.1 n := by
    unfold fr1
    rw [cz]
    simp only [List.append_assoc, List.cons_append, List.nil_append]
  rw [ef] at o5 ⊢
  have lf : (C ++ fr1 s.1 n).length = C.length + 3 := by rw [List.length_append]; rfl
  have l5 : (C ++ fr1 s.1 n ++ [j3 13 (s.1.2.2.2.2 n) 0 0]).length = C.length + 4 := by rw [List.length_append, lf, List.length_singleton]
  have w5 := h.kf e15 o5 (by omega)
  have p5 : (C ++ fr1 s.1 n ++ [j3 13 (s.1.2.2.2.2 n) 0 0]).length - u = p + 4 := by rw [l5]; omega
  have hbd := hb _ m5 w5
  rw [p5, hB] at hbd
  have f53 : m5.1 58 53 = nI u := w5.2.2.2
  rw [l67, f53, lf]
  refine yC.mono (Nat.le_refl _) (fun r m6 q => ⟨q.1, xv, ?_⟩) hbd
  have e16 := e15.tr q.2.2
  have o6 := q.2.1
  rw [((h0.kf e16).x v2).2.2.2.2.1]
  refine c369k xs D (by omega) o6 (fun m7 o7 e7 => ?_)
  have e17 := e16.tr e7
  refine yC.mono (by omega) (fun r m8 q8 => ⟨_, q8.1, ?_⟩) (c349 xs D (h0.kf e17).t hn hF)
  obtain ⟨-, rfl⟩ := q8
  refine c369k xs D (by omega) o7 (fun m9 o9 e9 => ⟨xv, ?_⟩)
  have e19 := e17.tr e9
  have t77 : m9.1 77 v = s.1.2.2.2.1 (vD s.1 v).2.1 := by
    unfold frm at v3
    rcases ((h0.kf e19).x v2).2.2.2.2.2.1 with ⟨y, -, y1, -⟩ | ⟨y, -⟩ | ⟨y, -⟩
    · exact y1
    · rw [y] at v3; exact absurd v3 (by decide)
    · rw [y] at v3; exact absurd v3 (by decide)
  rw [h.2.1.s, t77, ← ct]
  generalize hl6 : nI (min (C.length + 3) 3000) - nI u = l6
  have hl6' : C.length + 3 ≤ 3000 → l6 = nI (p + 3) := by
    intro hl
    rw [← hl6, Nat.min_eq_left hl, nI_sub (by omega)]
    congr 1
    omega
  have s150 : ∀ a : Int32, (a = if tyV s.1 (s.1.2.2.2.1 n).toNatClampNeg = 1 then 0 else 5) → yP (xg xs) (D + 4) 377 150 [(0, .ref 58), (1, .int (nI (J.2.2.2 n))), (2, .int (nI v)), (3, .int (nI (min C.length 3000))), (5, .int (nI (min (C.length + 3) 3000))), (6, .int l6)] [.int a, .int 7, .ref 58] m9 (fun r m' => r = none ∧ RO J (C ++ res (mX n) (nI (p + 9 + B.length)) (fr1 s.1 n ++ ((13, s.1.2.2.2.2 n, nI (p + 9 + B.length), 0, 0, 0) :: (B ++ fr2 s.1 n p)))) m' ∧ KF m m') := by
    intro a ha
    refine w377_150 xs (D + 3) _ _ _ _ _ _ _ m9 _ (c369k xs D (by omega) o9 (fun ma oa ea => ⟨xv, ?_⟩))
    have e1a := e19.tr ea
    rw [cv, ((h0.kf e1a).x v2).2.2.2.2.1]
    refine c369k xs D (by omega) oa (fun mb ob eb => c369k xs D (by omega) ob (fun mc oc ec => ?_))
    have e1c := (e1a.tr eb).tr ec
    have ae : C ++ fr1 s.1 n ++ [j3 13 (s.1.2.2.2.2 n) 0 0] ++ B ++ [j1 1 (vD s.1 v).2.2.2] ++ [j1 0 (stp s.1 n)] ++ [j1 7 a] ++ [j1 2 (vD s.1 v).2.2.2] ++ [j1 14 l6] = (C ++ fr1 s.1 n) ++ (j3 13 (s.1.2.2.2.2 n) 0 0) :: (B ++ [j1 1 (vD s.1 v).2.2.2, j1 0 (stp s.1 n), j1 7 a, j1 2 (vD s.1 v).2.2.2, j1 14 l6]) := by simp only [List.append_assoc, List.cons_append, List.nil_append]
    rw [ae] at oc
    have lc : ((C ++ fr1 s.1 n) ++ (j3 13 (s.1.2.2.2.2 n) 0 0) :: (B ++ [j1 1 (vD s.1 v).2.2.2, j1 0 (stp s.1 n), j1 7 a, j1 2 (vD s.1 v).2.2.2, j1 14 l6])).length = C.length + 9 + B.length := by
      rw [List.length_append, lf, List.length_cons, List.length_append]
      show C.length + 3 + (B.length + 5 + 1) = _
      omega
    refine c376k xs D (by omega) oc (show u ≤ _ by rw [lc]; omega) (by rw [e1c.2.1 53 (by omega) (by omega)]; exact h.2.2.2) (fun w hw => ⟨x_in_nI (by omega) (by decide), ?_⟩)
    rw [nI_clamp (by omega)]
    generalize hE : nI (p + 9 + B.length) = E
    have hw' : C.length + 9 + B.length ≤ 3000 → w = E := by
      intro hl
      rw [hw (by rw [lc]; exact hl), lc, ← hE]
      congr 1
      omega
    have ed : KF m (y_si mc 91 (min (C.length + 3) 3000) w) := e1c.si (by omega)
    have od : RO J ((C ++ fr1 s.1 n) ++ (13, s.1.2.2.2.2 n, E, 0, 0, 0) :: (B ++ [j1 1 (vD s.1 v).2.2.2, j1 0 (stp s.1 n), j1 7 a, j1 2 (vD s.1 v).2.2.2, j1 14 l6])) (y_si mc 91 (min (C.length + 3) 3000) w) := by
      refine RO.up (x := j3 13 (s.1.2.2.2.2 n) 0 0) (y := (13, s.1.2.2.2.2 n, E, 0, 0, 0)) oc (by rw [y_si_at, if_neg (by omega)]) (by rw [y_si_at, if_neg (by omega)]) (fun hl a' k' ha' hk' => ?_) (fun hl => ?_)
      · rw [lc] at hl
        rw [lf] at hk'
        rw [y_si_at, if_neg (by omega)]
      · rw [lc] at hl
        rw [lf]
        rintro ⟨g1, g2, g3, g4, g5⟩
        have em : min (C.length + 3) 3000 = C.length + 3 := by omega
        rw [em]
        have o89 : (y_si mc 91 (C.length + 3) w).1 89 (C.length + 3) = mc.1 89 (C.length + 3) := by rw [y_si_at, if_neg (by omega)]
        have o90 : (y_si mc 91 (C.length + 3) w).1 90 (C.length + 3) = mc.1 90 (C.length + 3) := by rw [y_si_at, if_neg (by omega)]
        have o92 : (y_si mc 91 (C.length + 3) w).1 92 (C.length + 3) = mc.1 92 (C.length + 3) := by rw [y_si_at, if_neg (by omega)]
        have o95 : (y_si mc 91 (C.length + 3) w).1 95 (C.length + 3) = mc.1 95 (C.length + 3) := by rw [y_si_at, if_neg (by omega)]
        rw [o89, o90, o92, o95, y_si_same, hw' hl]
        exact ⟨g1, g2, rfl, g4, g5⟩
    have oW : RO J (C ++ (fr1 s.1 n ++ ((13, s.1.2.2.2.2 n, E, 0, 0, 0) :: (B ++ fr2 s.1 n p)))) (y_si mc 91 (min (C.length + 3) 3000) w) := by
      refine od.cg ?_ (fun hl => ?_)
      · simp only [List.length_append, List.length_cons]
        have : (fr2 s.1 n p).length = 5 := rfl
        rw [this]
        simp only [List.length_nil]
        omega
      · have ll : ((C ++ fr1 s.1 n) ++ (13, s.1.2.2.2.2 n, E, 0, 0, 0) :: (B ++ [j1 1 (vD s.1 v).2.2.2, j1 0 (stp s.1 n), j1 7 a, j1 2 (vD s.1 v).2.2.2, j1 14 l6])).length = C.length + 9 + B.length := by rw [← lc]; simp
        rw [ll] at hl
        have e2 : fr2 s.1 n p = [j1 1 (vD s.1 v).2.2.2, j1 0 (stp s.1 n), j1 7 a, j1 2 (vD s.1 v).2.2.2, j1 14 l6] := by
          unfold fr2
          rw [cz, ← ha, hl6' (by omega)]
        rw [e2, List.append_assoc]
    have lW : (fr1 s.1 n ++ (((13, s.1.2.2.2.2 n, E, 0, 0, 0) : IT) :: (B ++ fr2 s.1 n p))).length = 9 + B.length := by
      rw [List.length_append, List.length_cons, List.length_append]
      show 3 + (B.length + 5 + 1) = _
      omega
    have nJ : ¬ (-1 : Int32) = nI (J.2.2.2 n) := fun z => nI_ne1 (h0.t.i hn) z.symm
    refine c377r xs (D + 2) oW hu (by rw [ed.2.1 53 (by omega) (by omega)]; exact h.2.2.2) (fun _ x hx => ?_) (fun me oe ee => ⟨rfl, ?_, ed.tr ee⟩)
    · have plain : (x.2.2.2.2.1 = 0 ∧ x.2.2.2.2.2 = 0) → (x.2.2.2.2.1 = mX n ↔ rlV J x = nI (J.2.2.2 n)) := by
        rintro ⟨y1, y2⟩
        unfold rlV
        rw [y1, y2, if_pos rfl]
        exact ⟨fun z => by unfold mX at z; omega, fun z => absurd z nJ⟩
      have f1 : pl (fr1 s.1 n) := pl.app (D := [_]) (pl.i1 (by decide)) (pl.app (D := [_]) (pl.i1 (by decide)) (pl.i (by decide)))
      have f2 : pl (fr2 s.1 n p) := pl.app (D := [_]) (pl.i1 (by decide)) (pl.app (D := [_]) (pl.i1 (by decide)) (pl.app (D := [_]) (pl.i1 (by decide)) (pl.app (D := [_]) (pl.i1 (by decide)) (pl.i1 (by decide)))))
      rcases List.mem_append.mp hx with y | y
      · exact plain (f1 x y).2
      · rcases List.mem_cons.mp y with y | y
        · exact plain (by rw [y]; exact ⟨rfl, rfl⟩)
        · rcases List.mem_append.mp y with y | y
          · obtain ⟨-, a2⟩ := hq x y
            rcases a2 with ⟨b1, b2⟩ | ⟨b1, b2, b3⟩ | ⟨b1, b2, b3⟩
            · exact plain ⟨b2, b1⟩
            · unfold rlV
              rw [b1, if_neg (by omega)]
              exact ⟨fun _ => rfl, fun _ => b2⟩
            · refine ⟨fun z => by rw [b3] at z; unfold mX at z; omega, fun z => ?_⟩
              exfalso
              unfold rlV at z
              rw [if_neg (by omega)] at z
              have ll : x.2.2.2.2.2 < J.2.2.1.length := by omega
              have := (nI_eq (by have := h0.t.i ll; omega) (by have := h0.t.i hn; omega)).mp z
              have := h0.t.2.2.1 _ _ ll hn this
              omega
          · exact plain (f2 x y).2
    · rw [lW, hp] at oe
      rw [show p + (9 + B.length) = p + 9 + B.length by omega, hE] at oe
      exact oe
  refine ⟨fun z => s150 5 ?_, fun z => s150 0 ?_⟩
  · rw [if_neg z]
  · rw [if_pos z]
