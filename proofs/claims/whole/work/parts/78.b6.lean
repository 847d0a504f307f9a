/-! THE REFERENCE'S WRITER: groups and rungs -/
theorem c379c (xs : List Int32) (d : Nat) {J : JV} {s : SU} {g cols : Nat} {m : yM} (hT : JT J m) (hr : RG J.2.2.1 s.1 (kids J.2.2.1 g) cols) (hg : hkR J g) {D : Nat} (hd : d + 1 ≤ D) {row l : Nat} (rl : row < (kids J.2.2.1 g).length) (l1 : 1 ≤ l) (l2 : l ≤ cols) {P : Int32 → yM → Prop} (k : P (nI (J.2.2.2 (clR J.2.2.1 (kids J.2.2.1 g) row l))) m) : yC (xg xs) D 350 [.ref 58, .int (nI (J.2.2.2 g)), .int (nI row)] m (fun v1 m1 => ∃ u1, v1 = some (Value.int u1) ∧ yC (xg xs) D 379 [.ref 58, .int u1, .int (nI l - 1)] m1 (fun v2 m2 => ∃ u2, v2 = some (Value.int u2) ∧ P u2 m2)) := by
  obtain ⟨R12, c0, c12, hrow, hcl⟩ := hr
  have gk : (kids J.2.2.1 g)[row]? = some ((kids J.2.2.1 g).getD row 0) := getD_some rl
  obtain ⟨q1, q2⟩ := hrow row rl
  have e : nI l - 1 = nI (l - 1) := by
    obtain ⟨b, rfl⟩ : ∃ b, l = b + 1 := ⟨l - 1, by omega⟩
    rw [nI_m (by omega)]
  rw [e]
  exact y_ci (c350 xs d hT hg.1 (by omega) gk) hd (y_ci (c379 xs d hT q1 (show l - 1 < _ by rw [q2]; omega) (by omega)) hd k)
theorem c382 (xs : List Int32) (d : Nat) {m0 : yM} {T : Nat} {J : JV} {s : SU} (hY : HY m0 T J.2.2.1 s) {b : Nat} {pw : Int32} {g cols : Nat} (hg : hkR J g) (hr : RG J.2.2.1 s.1 (kids J.2.2.1 g) cols) {a l : Nat} (ha : a < (kids J.2.2.1 g).length) (l1 : 1 ≤ l) (l2 : l ≤ cols) {C : List IT} {m : yM} (h : UBR J s b pw m) (ho : RO J C m) : yC (xg xs) (d + 379) 382 [.ref 58, .int (nI (J.2.2.2 g)), .int (nI a), .int (nI l)] m (fun r m' => r = none ∧ RO J (C ++ gpC J.2.2.1 s.1 (kids J.2.2.1 g) pw l a) m' ∧ KF m m') := by
  have hr' := hr
  obtain ⟨R12, c0, c12, hrow, hcl⟩ := hr
  have h0 := h.1
  have x0 := h0.t.x hg.1
  have cg := h0.t.c hg.1
  have e69 : ∀ m1, KF m m1 → m1.1 69 (J.2.2.2 g) = nI (kids J.2.2.1 g).length := fun m1 e1 => ((h0.kf e1).t.2.1 g hg.1).2.2.2.2.2.2.2.1
  have s115 : ∀ (fed : Nat) C1 m1, fed ≤ 12 → RO J C1 m1 → KF m m1 → yP (xg xs) (d + 379) 382 115 [(0, .ref 58), (1, .int (nI (J.2.2.2 g))), (2, .int (nI a)), (3, .int (nI l)), (4, .int (nI fed))] [] m1 (fun r m' => r = none ∧ RO J (C1 ++ ((if fed = 0 then [j1 0 0] else []) ++ [j1 2 (pwO J.2.2.1 (kids J.2.2.1 g) pw a l)])) m' ∧ KF m m') := by
    intro fed C1 m1 hfd o1 e1
    have s130 : ∀ C2 m2, RO J C2 m2 → KF m m2 → C2 ++ [j1 2 (pwO J.2.2.1 (kids J.2.2.1 g) pw a l)] = C1 ++ ((if fed = 0 then [j1 0 0] else []) ++ [j1 2 (pwO J.2.2.1 (kids J.2.2.1 g) pw a l)]) → yP (xg xs) (d + 379) 382 130 [(0, .ref 58), (1, .int (nI (J.2.2.2 g))), (2, .int (nI a)), (3, .int (nI l))] [] m2 (fun r m' => r = none ∧ RO J (C1 ++ ((if fed = 0 then [j1 0 0] else []) ++ [j1 2 (pwO J.2.2.1 (kids J.2.2.1 g) pw a l)])) m' ∧ KF m m') := by
      intro C2 m2 o2 e2 ee
      refine w382_130 xs (d + 378) _ _ _ m2 _ (y_ci (c384 xs d (h.kf e2) hg ha (by omega)) (by omega) (c369k xs d (by omega) o2 (fun m3 o3 e3 => ⟨rfl, ?_, e2.tr e3⟩)))
      rw [← ee]; exact o3
    have i0 : nI fed = 0 ↔ fed = 0 := nI_eq (b := 0) (by omega) (by omega)
    refine w382_115 xs (d + 378) _ _ _ _ m1 _ ⟨fun z => s130 C1 m1 o1 e1 ?_, fun z => c369k xs d (by omega) o1 (fun m2 o2 e2 => s130 _ m2 o2 (e1.tr e2) ?_)⟩
    · rw [if_neg (fun y => z (i0.mpr y)), List.nil_append]
    · rw [if_pos (i0.mp z), List.append_assoc]
  have lp : ∀ (k row fed : Nat) C1 m1, row + k = (kids J.2.2.1 g).length → fed ≤ row → RO J C1 m1 → KF m m1 → yP (xg xs) (d + 379) 382 9 [(0, .ref 58), (1, .int (nI (J.2.2.2 g))), (2, .int (nI a)), (3, .int (nI l)), (4, .int (nI fed)), (6, .int (nI row))] [] m1 (fun r m' => r = none ∧ RO J (C1 ++ (gpR J.2.2.1 s.1 (kids J.2.2.1 g) pw l a k row fed ++ [j1 2 (pwO J.2.2.1 (kids J.2.2.1 g) pw a l)])) m' ∧ KF m m') := by
    intro k
    induction k with
    | zero =>
      intro row fed C1 m1 hk hfd o1 e1
      refine w382_9 xs (d + 378) _ _ _ _ _ m1 _ ⟨x0, ?_⟩
      rw [cg, e69 m1 e1]
      exact ⟨fun _ => s115 fed C1 m1 (by omega) o1 e1, fun z => absurd (nI_le (by omega) (by omega)) z⟩
    | succ k ih =>
      intro row fed C1 m1 hk hfd o1 e1
      have h1 := h.kf e1
      have rl : row < (kids J.2.2.1 g).length := by omega
      obtain ⟨n1, n2, n3, n4⟩ := hcl row rl l l1 l2
      have es : gpR J.2.2.1 s.1 (kids J.2.2.1 g) pw l a (k + 1) row fed = if lsR J.2.2.1 (kids J.2.2.1 g) l row = a then (if kK J.2.2.1 (clR J.2.2.1 (kids J.2.2.1 g) row l) = 27 then gpR J.2.2.1 s.1 (kids J.2.2.1 g) pw l a k (row + 1) fed else [fdC J.2.2.1 (kids J.2.2.1 g) pw row l] ++ ((if kK J.2.2.1 (clR J.2.2.1 (kids J.2.2.1 g) row l) = 25 then cnC s.1 (clR J.2.2.1 (kids J.2.2.1 g) row l) else []) ++ ((if fed = 0 then [] else [j1 7 11]) ++ gpR J.2.2.1 s.1 (kids J.2.2.1 g) pw l a k (row + 1) (fed + 1)))) else if fed = 0 then [j1 0 0] else [] := rfl
      have ls := lsR_le J.2.2.1 (kids J.2.2.1 g) l row
      have ia : nI (lsR J.2.2.1 (kids J.2.2.1 g) l row) = nI a ↔ lsR J.2.2.1 (kids J.2.2.1 g) l row = a := nI_eq (by omega) (by omega)
      refine w382_9 xs (d + 378) _ _ _ _ _ m1 _ ⟨x0, ?_⟩
      rw [cg, e69 m1 e1]
      refine ⟨fun z => ?_, fun _ => y_ci (c380 xs d h1.1.t hg.1 hg.2.1 (show l ≤ 12 by omega) row rl (by omega)) (by omega) ⟨fun z => ?_, fun z => ?_⟩⟩
      · have := (nI_leI (by omega) (by omega)).mp z
        omega
      · have no : ¬ lsR J.2.2.1 (kids J.2.2.1 g) l row = a := fun y => z (ia.mpr y)
        rw [es, if_neg no]
        exact s115 fed C1 m1 (by omega) o1 e1
      · rw [if_pos (ia.mp z)] at es
        refine c379c xs d h1.1.t hr' hg (by omega) rl l1 l2 ?_
        generalize hn : clR J.2.2.1 (kids J.2.2.1 g) row l = n at *
        have ik : ∀ q, q < 37 → (nI (kK J.2.2.1 n) = nI q ↔ kK J.2.2.1 n = q) := fun q hq => nI_eq (by omega) (by omega)
        have xn := h0.t.x n1
        have cn := h0.t.c n1
        have e62 : ∀ m2, KF m m2 → m2.1 62 (J.2.2.2 n) = nI (kK J.2.2.1 n) := fun m2 e2 => ((h0.kf e2).t.2.1 n n1).2.1
        show x_in (nI (J.2.2.2 n)) 20000 = true ∧ _
        rw [cn, e62 m1 e1]
        refine ⟨xn, fun y => ?_, fun y => ?_⟩
        · rw [if_pos ((ik 27 (by omega)).mp y)] at es
          rw [es]
          refine w382_109 xs (d + 378) _ _ _ _ _ m1 _ ?_
          rw [nI_1]
          exact ih (row + 1) fed C1 m1 (by omega) (by omega) o1 e1
        · rw [if_neg (fun q => y ((ik 27 (by omega)).mpr q))] at es
          rw [es]
          have i0 : nI fed + 1 ≤ 1 ↔ fed = 0 := by
            rw [nI_1]
            exact (nI_leI (b := 1) (by omega) (by omega)).trans ⟨fun q => by omega, fun q => by omega⟩
          generalize hG : gpR J.2.2.1 s.1 (kids J.2.2.1 g) pw l a k (row + 1) (fed + 1) = G at *
          have s88 : ∀ C2 m2, RO J C2 m2 → KF m m2 → yP (xg xs) (d + 379) 382 88 [(0, .ref 58), (1, .int (nI (J.2.2.2 g))), (2, .int (nI a)), (3, .int (nI l)), (4, .int (nI fed)), (6, .int (nI row))] [] m2 (fun r m' => r = none ∧ RO J (C2 ++ ((if fed = 0 then [] else [j1 7 11]) ++ (G ++ [j1 2 (pwO J.2.2.1 (kids J.2.2.1 g) pw a l)]))) m' ∧ KF m m') := by
            intro C2 m2 o2 e2
            have s109 : ∀ C3 m3, RO J C3 m3 → KF m m3 → yP (xg xs) (d + 379) 382 109 [(0, .ref 58), (1, .int (nI (J.2.2.2 g))), (2, .int (nI a)), (3, .int (nI l)), (4, .int (nI fed + 1)), (6, .int (nI row))] [] m3 (fun r m' => r = none ∧ RO J (C3 ++ (G ++ [j1 2 (pwO J.2.2.1 (kids J.2.2.1 g) pw a l)])) m' ∧ KF m m') := by
              intro C3 m3 o3 e3
              refine w382_109 xs (d + 378) _ _ _ _ _ m3 _ ?_
              rw [nI_1, nI_1]
              have := ih (row + 1) (fed + 1) C3 m3 (by omega) (by omega) o3 e3
              rw [hG] at this
              exact this
            refine w382_88 xs (d + 378) _ _ _ _ _ m2 _ ⟨fun q => ?_, fun q => ?_⟩
            · rw [if_pos (i0.mp q), List.nil_append]
              exact s109 C2 m2 o2 e2
            · rw [if_neg (fun r => q (i0.mpr r))]
              refine c369k xs d (by omega) o2 (fun m3 o3 e3 => ?_)
              have := s109 _ m3 o3 (e2.tr e3)
              rw [List.append_assoc] at this
              exact this
          have e : nI l - 1 = nI (l - 1) := by
            obtain ⟨q, rfl⟩ : ∃ q, l = q + 1 := ⟨l - 1, by omega⟩
            rw [nI_m (by omega)]
          have k83 := c383 xs d h1 o1 hg rl (show l - 1 < 12 by omega)
          rw [show l - 1 + 1 = l by omega] at k83
          rw [e]
          refine yC.mono (by omega) (fun r m2 q => ⟨q.1, xn, ?_⟩) k83
          have e2 := e1.tr q.2.2
          rw [e62 m2 e2]
          refine ⟨fun w => ?_, fun w => ?_⟩
          · have no : ¬ kK J.2.2.1 n = 25 := fun r => w ((ik 25 (by omega)).mpr r)
            rw [if_neg no]
            have := s88 _ m2 q.2.1 e2
            simpa only [List.append_assoc, List.nil_append] using this
          · have yes := (ik 25 (by omega)).mp w
            rw [if_pos yes]
            refine yC.mono (Nat.le_refl _) (fun r m3 q3 => ⟨q3.1, ?_⟩) (c385 xs d hY (ccK_of hY.1.1 n1 (Or.inl yes)) yes (h0.kf e2) q.2.1)
            have := s88 _ m3 q3.2.1 (e2.tr q3.2.2)
            simpa only [List.append_assoc] using this
  refine w382_0 xs (d + 378) _ _ _ m _ ?_
  exact lp ((kids J.2.2.1 g).length - a) a 0 C m (by omega) (by omega) ho (KF.re m)
theorem c378 (xs : List Int32) (d : Nat) {m0 : yM} {T : Nat} {J : JV} {s : SU} (hY : HY m0 T J.2.2.1 s) {b : Nat} {pw : Int32} {N g : Nat} (hW : TW m0 T J.2.2.1 N g) (k23 : kK J.2.2.1 g = 23) {C : List IT} {m : yM} (h : UBR J s b pw m) (ho : RO J C m) : yC (xg xs) (d + 380) 378 [.ref 58, .int (nI (J.2.2.2 g))] m (fun r m' => r = none ∧ RO J (C ++ rgC J.2.2.1 s.1 pw g) m' ∧ KF m m') := by
  have hS := hY.1.1
  have at' := hW.at
  have hn : g < J.2.2.1.length := by omega
  have h0 := h.1
  have hF := h0.t.2.2.2.2.2
  have hr := RG_of hS hY.1.2.1 hW k23
  have ok := hW.ok
  rw [k23] at ok
  obtain ⟨-, ne, all⟩ := ok
  have kl16 : ∀ r, r < J.2.2.1.length → (kids J.2.2.1 r).length ≤ 16400 := by
    intro r rl
    obtain ⟨M, hM⟩ := hS.1.1 r rl
    have a := kds_len J.2.2.1 (r + szF J.2.2.1 r) (szF J.2.2.1 r) (r + 1)
    have := hM.at
    unfold kids
    omega
  have hg : hkR J g := ⟨hn, fun r rm => ⟨(hW.kin rm).2.2.2.1, kl16 r (hW.kin rm).2.2.2.1⟩, hr.1⟩
  have k0 : (kids J.2.2.1 g)[0]? = some (g + 1) := by
    have til := hW.til
    cases hk : kids J.2.2.1 g with
    | nil => rw [hk] at ne; exact absurd rfl ne
    | cons r K => rw [hk] at til; rw [til.1]; rfl
  have m1 := List.mem_of_getElem? k0
  have l66 : m.1 66 (J.2.2.2 g) = nI (J.2.2.2 (g + 1)) := by rw [(h0.t.2.1 g hn).2.2.2.2.2.1, k0]; rfl
  -- kinds of cells
  have kc : ∀ r, r ∈ kids J.2.2.1 g → ∀ x, x ∈ kids J.2.2.1 r → s.1.2.2.1 x = nI (kK J.2.2.1 x) ∧ kK J.2.2.1 x < 37 := by
    intro r rm x hx
    have z := hW.kin rm
    obtain ⟨M, hM⟩ := hS.1.1 r z.2.2.2.1
    have zx := hM.kin hx
    have okr := hM.ok
    rw [hW.mk all rm] at okr
    obtain ⟨-, c, t, o1, o2, o3⟩ := okr
    have kx : lcK (kK J.2.2.1 x) ∨ kK J.2.2.1 x = 29 := by
      have : kK J.2.2.1 x ∈ c :: t := by rw [← o3]; exact List.mem_map_of_mem hx
      rcases List.mem_cons.mp this with y | y
      · rw [y]; exact Or.inl o1
      · exact o2 _ y
    rcases hS.ks zx.2.2.2.1 with y | ⟨y, w⟩
    · exact ⟨y, by unfold lcK at kx; omega⟩
    · exfalso; unfold lcK at kx; omega
  have kcnt : cntL s.1 (kids J.2.2.1 (g + 1)) 0 = nI (cel J.2.2.1 (g + 1)).length := by
    have := cntL_e (F := J.2.2.1) (σ := s.1) (kids J.2.2.1 (g + 1)) 0 (fun x hx => by
      obtain ⟨y1, y2⟩ := kc _ m1 x hx
      rw [y1]
      exact nI_eq (b := 29) (by omega) (by omega))
    rw [Nat.zero_add] at this
    exact this
  unfold rgC
  generalize hcols : (cel J.2.2.1 (g + 1)).length = cols at *
  have hr' := hr
  obtain ⟨R12, c0, c12, hrow, hcl⟩ := hr
  have x0 := h0.t.x hn
  have cg := h0.t.c hn
  have e69 : ∀ m1, KF m m1 → m1.1 69 (J.2.2.2 g) = nI (kids J.2.2.1 g).length := fun m1 e1 => ((h0.kf e1).t.2.1 g hn).2.2.2.2.2.2.2.1
  -- coils
  have coils : ∀ (k row : Nat) (C1 : List IT) (m1 : yM), row + k = (kids J.2.2.1 g).length → RO J C1 m1 → KF m m1 → yP (xg xs) (d + 380) 378 124 [(0, .ref 58), (1, .int (nI (J.2.2.2 g))), (2, .int (nI cols)), (4, .int (nI row))] [] m1 (fun r m' => r = none ∧ RO J (C1 ++ coL J.2.2.1 s.1 (kids J.2.2.1 g) pw cols k row) m' ∧ KF m m') := by
    intro k
    induction k with
    | zero =>
      intro row C1 m1 hk o1 e1
      refine w378_124 xs (d + 379) _ _ _ m1 _ ⟨x0, ?_⟩
      rw [cg, e69 m1 e1]
      refine ⟨fun _ => ⟨rfl, ?_, e1⟩, fun z => absurd (nI_le (by omega) (by omega)) z⟩
      show RO J (C1 ++ []) m1
      rw [List.append_nil]; exact o1
    | succ k ih =>
      intro row C1 m1 hk o1 e1
      have rl : row < (kids J.2.2.1 g).length := by omega
      obtain ⟨n1, n2, n3, n4⟩ := hcl row rl cols c0 (Nat.le_refl _)
      have es : coL J.2.2.1 s.1 (kids J.2.2.1 g) pw cols (k + 1) row = (if kK J.2.2.1 (clR J.2.2.1 (kids J.2.2.1 g) row cols) = 28 then coC J.2.2.1 s.1 (kids J.2.2.1 g) pw cols row (clR J.2.2.1 (kids J.2.2.1 g) row cols) else []) ++ coL J.2.2.1 s.1 (kids J.2.2.1 g) pw cols k (row + 1) := rfl
      rw [es]
      refine w378_124 xs (d + 379) _ _ _ m1 _ ⟨x0, ?_⟩
      rw [cg, e69 m1 e1]
      refine ⟨fun z => ?_, fun _ => c379c xs d (h0.kf e1).t hr' hg (by omega) rl c0 (Nat.le_refl _) ?_⟩
      · have := (nI_leI (by omega) (by omega)).mp z
        omega
      · generalize hnn : clR J.2.2.1 (kids J.2.2.1 g) row cols = n at *
        have i28 : nI (kK J.2.2.1 n) = 28 ↔ kK J.2.2.1 n = 28 := nI_eq (b := 28) (by omega) (by omega)
        show x_in (nI (J.2.2.2 n)) 20000 = true ∧ _
        rw [h0.t.c n1, ((h0.kf e1).t.2.1 n n1).2.1]
        refine ⟨h0.t.x n1, fun z => ?_, fun z => ?_⟩
        · rw [if_neg (fun y => z (i28.mpr y)), List.nil_append]
          refine w378_175 xs (d + 379) _ _ _ m1 _ ?_
          rw [nI_1]
          exact ih (row + 1) C1 m1 (by omega) o1 e1
        · have yes := i28.mp z
          rw [if_pos yes]
          have e : nI cols - 1 = nI (cols - 1) := by
            obtain ⟨q, rfl⟩ : ∃ q, cols = q + 1 := ⟨cols - 1, by omega⟩
            rw [nI_m (by omega)]
          rw [e]
          refine yC.mono (by omega) (fun r m2 q => ⟨q.1, w378_175 xs (d + 379) _ _ _ m2 _ ?_⟩) (c386 xs d hY hg (ccK_of hS n1 (Or.inr yes)) yes rl c0 c12 (h.kf e1) o1)
          rw [nI_1]
          have := ih (row + 1) _ m2 (by omega) q.2.1 (e1.tr q.2.2)
          rw [List.append_assoc] at this
          exact this
  -- a line
  have line : ∀ (l : Nat), 1 ≤ l → l ≤ cols → ∀ (Q : Option Value → yM → Prop) (k row : Nat) (C1 : List IT) (m1 : yM), row + k = (kids J.2.2.1 g).length → RO J C1 m1 → KF m m1 → (∀ m2, RO J (C1 ++ gpL J.2.2.1 s.1 (kids J.2.2.1 g) pw cols l k row) m2 → KF m m2 → yP (xg xs) (d + 380) 378 16 [(0, .ref 58), (1, .int (nI (J.2.2.2 g))), (2, .int (nI cols)), (4, .int (nI (l + 1)))] [] m2 Q) → yP (xg xs) (d + 380) 378 32 [(0, .ref 58), (1, .int (nI (J.2.2.2 g))), (2, .int (nI cols)), (4, .int (nI l)), (5, .int (nI row))] [] m1 Q := by
    intro l l1 l2 Q k
    induction k with
    | zero =>
      intro row C1 m1 hk o1 e1 kk
      refine w378_32 xs (d + 379) _ _ _ _ m1 _ ⟨x0, ?_⟩
      rw [cg, e69 m1 e1, nI_1]
      refine ⟨fun _ => kk m1 ?_ e1, fun z => absurd (nI_le (by omega) (by omega)) z⟩
      show RO J (C1 ++ []) m1
      rw [List.append_nil]; exact o1
    | succ k ih =>
      intro row C1 m1 hk o1 e1 kk
      have rl : row < (kids J.2.2.1 g).length := by omega
      obtain ⟨n1, n2, n3, n4⟩ := hcl row rl l l1 l2
      have es : gpL J.2.2.1 s.1 (kids J.2.2.1 g) pw cols l (k + 1) row = (if lsR J.2.2.1 (kids J.2.2.1 g) l row = row ∧ ¬ (l = cols ∧ kK J.2.2.1 (clR J.2.2.1 (kids J.2.2.1 g) row l) = 28) then gpC J.2.2.1 s.1 (kids J.2.2.1 g) pw l row else []) ++ gpL J.2.2.1 s.1 (kids J.2.2.1 g) pw cols l k (row + 1) := rfl
      rw [es] at kk
      have ls := lsR_le J.2.2.1 (kids J.2.2.1 g) l row
      have ia : nI (lsR J.2.2.1 (kids J.2.2.1 g) l row) = nI row ↔ lsR J.2.2.1 (kids J.2.2.1 g) l row = row := nI_eq (by omega) (by omega)
      have ic : nI l = nI cols ↔ l = cols := nI_eq (by omega) (by omega)
      have i28 : nI (kK J.2.2.1 (clR J.2.2.1 (kids J.2.2.1 g) row l)) = 28 ↔ kK J.2.2.1 (clR J.2.2.1 (kids J.2.2.1 g) row l) = 28 := nI_eq (b := 28) (by omega) (by omega)
      have skip : ¬ (lsR J.2.2.1 (kids J.2.2.1 g) l row = row ∧ ¬ (l = cols ∧ kK J.2.2.1 (clR J.2.2.1 (kids J.2.2.1 g) row l) = 28)) → yP (xg xs) (d + 380) 378 109 [(0, .ref 58), (1, .int (nI (J.2.2.2 g))), (2, .int (nI cols)), (4, .int (nI l)), (5, .int (nI row))] [] m1 Q := by
        intro z
        rw [if_neg z, List.nil_append] at kk
        refine w378_109 xs (d + 379) _ _ _ _ m1 _ ?_
        rw [nI_1]
        exact ih (row + 1) C1 m1 (by omega) o1 e1 kk
      have s79 : ∀ t0 : Int32, (t0 = 0 ↔ ¬ (l = cols ∧ kK J.2.2.1 (clR J.2.2.1 (kids J.2.2.1 g) row l) = 28)) → yP (xg xs) (d + 380) 378 79 [(0, .ref 58), (1, .int (nI (J.2.2.2 g))), (2, .int (nI cols)), (4, .int (nI l)), (5, .int (nI row))] [.int t0] m1 Q := by
        intro t0 ht
        refine w378_79 xs (d + 379) _ _ _ _ _ m1 _ (y_ci (c380 xs d (h0.kf e1).t hn hg.2.1 (show l ≤ 12 by omega) row rl (by omega)) (by omega) ⟨fun z => skip (fun y => z (ia.mpr y.1)), fun z => ⟨fun y => skip (fun w => y (ht.mpr w.2)), fun y => ?_⟩⟩)
        have yes : lsR J.2.2.1 (kids J.2.2.1 g) l row = row ∧ ¬ (l = cols ∧ kK J.2.2.1 (clR J.2.2.1 (kids J.2.2.1 g) row l) = 28) := ⟨ia.mp z, ht.mp y⟩
        rw [if_pos yes] at kk
        refine yC.mono (by omega) (fun r m2 q => ⟨q.1, w378_109 xs (d + 379) _ _ _ _ m2 _ ?_⟩) (c382 xs d hY hg hr' rl l1 l2 (h.kf e1) o1)
        rw [nI_1]
        exact ih (row + 1) _ m2 (by omega) q.2.1 (e1.tr q.2.2) (fun m3 o3 e3 => kk m3 (by rw [← List.append_assoc]; exact o3) e3)
      refine w378_32 xs (d + 379) _ _ _ _ m1 _ ⟨x0, ?_⟩
      rw [cg, e69 m1 e1]
      refine ⟨fun z => ?_, fun _ => ⟨fun z => w378_78 xs (d + 379) _ _ _ _ m1 _ (s79 0 ⟨fun _ y => z (ic.mpr y.1), fun _ => rfl⟩), fun z => c379c xs d (h0.kf e1).t hr' hg (by omega) rl l1 l2 ?_⟩⟩
      · have := (nI_leI (by omega) (by omega)).mp z
        omega
      · show x_in (nI (J.2.2.2 (clR J.2.2.1 (kids J.2.2.1 g) row l))) 20000 = true ∧ _
        rw [h0.t.c n1, ((h0.kf e1).t.2.1 _ n1).2.1]
        exact ⟨h0.t.x n1, fun y => w378_78 xs (d + 379) _ _ _ _ m1 _ (s79 0 ⟨fun _ w => y (i28.mpr w.2), fun _ => rfl⟩), fun y => s79 1 ⟨fun w => absurd w (by decide), fun w => absurd ⟨ic.mp z, i28.mp y⟩ w⟩⟩
  have ll : ∀ (k l : Nat) (C1 : List IT) (m1 : yM), l + k = cols + 1 → 1 ≤ l → RO J C1 m1 → KF m m1 → yP (xg xs) (d + 380) 378 16 [(0, .ref 58), (1, .int (nI (J.2.2.2 g))), (2, .int (nI cols)), (4, .int (nI l))] [] m1 (fun r m' => r = none ∧ RO J (C1 ++ (lnC J.2.2.1 s.1 (kids J.2.2.1 g) pw cols k l ++ coL J.2.2.1 s.1 (kids J.2.2.1 g) pw cols (kids J.2.2.1 g).length 0)) m' ∧ KF m m') := by
    intro k
    have last : ∀ (C1 C2 : List IT) (m1 : yM), RO J C1 m1 → KF m m1 → C1 = C2 → yP (xg xs) (d + 380) 378 121 [(0, .ref 58), (1, .int (nI (J.2.2.2 g))), (2, .int (nI cols))] [] m1 (fun r m' => r = none ∧ RO J (C2 ++ coL J.2.2.1 s.1 (kids J.2.2.1 g) pw cols (kids J.2.2.1 g).length 0) m' ∧ KF m m') := by
      intro C1 C2 m1 o1 e1 ee
      rw [← ee]
      exact w378_121 xs (d + 379) _ _ m1 _ (coils (kids J.2.2.1 g).length 0 C1 m1 (by omega) o1 e1)
    induction k with
    | zero =>
      intro l C1 m1 hk l1 o1 e1
      refine w378_16 xs (d + 379) _ _ _ m1 _ ⟨fun _ => last C1 C1 m1 o1 e1 rfl, fun z => absurd (nI_lt (by omega) (by omega)) z⟩
    | succ k ih =>
      intro l C1 m1 hk l1 o1 e1
      have l0 : lnC J.2.2.1 s.1 (kids J.2.2.1 g) pw cols (k + 1) l = gpL J.2.2.1 s.1 (kids J.2.2.1 g) pw cols l (kids J.2.2.1 g).length 0 ++ lnC J.2.2.1 s.1 (kids J.2.2.1 g) pw cols k (l + 1) := rfl
      refine w378_16 xs (d + 379) _ _ _ m1 _ ⟨fun z => ?_, fun _ => ⟨fun z => ?_, fun z => ?_⟩⟩
      · have := (nI_ltI (by omega) (by omega)).mp z
        omega
      · have big : 3000 < C1.length := by
          rcases Nat.lt_or_ge 3000 C1.length with y | y
          · exact y
          · exact absurd (o1.z.mpr y) z
        rw [← List.append_assoc]
        exact last _ _ m1 (o1.big big _) e1 rfl
      · rw [l0]
        refine line l l1 (by omega) _ (kids J.2.2.1 g).length 0 C1 m1 (by omega) o1 e1 (fun m2 o2 e2 => ?_)
        have := ih (l + 1) _ m2 (by omega) (by omega) o2 e2
        simp only [List.append_assoc] at this ⊢
        exact this
  refine w378_0 xs (d + 379) _ m _ ⟨x0, ?_⟩
  rw [cg, l66]
  have k53 := c353 xs d (σ := s.1) h0.t (hW.kin m1).2.2.2.1 (fun x hx => (kc _ m1 x hx).1)
  rw [kcnt] at k53
  refine y_ci k53 (by omega) ?_
  exact ll cols 1 C m (by omega) (Nat.le_refl _) ho (KF.re m)
