/-! THE REFERENCE'S RULES: an instance's inputs -/
abbrev sm (J : JV) (n i : Nat) : Bool := decide (vF J.2.2.1 i = vF J.2.2.1 n)
theorem c345L (xs : List Int32) (d : Nat) {J : JV} (hN : JN J) {m : yM} (hT : JT J m) {p n : Nat} (hp : p < J.2.2.1.length) (hn : n < J.2.2.1.length) (hvn : ¬ vtF J.2.2.1 n = 0) {l3 : Int32} {Q : Option Value → yM → Prop} {L2 : List Nat} : ∀ (K : List Nat) (j : Nat) (l4 : Int32), (kids J.2.2.1 p).drop j = K ++ n :: L2 → (∀ i, i ∈ K → ¬ i = n ∧ ¬ vtF J.2.2.1 i = 0) → (l4 = 0 ∨ l4 = 1) → yP (xg xs) (d + 1) 345 214 [(0, .ref 58), (1, .int (nI (J.2.2.2 n))), (3, .int l3), (4, .int (if l4 = 1 ∨ K.any (sm J n) = true then 1 else 0)), (5, .int (nI (J.2.2.2 n)))] [] m Q → yP (xg xs) (d + 1) 345 214 [(0, .ref 58), (1, .int (nI (J.2.2.2 n))), (3, .int l3), (4, .int l4), (5, .int (lkI J.2.2.2 (kids J.2.2.1 p)[j]?))] [] m Q
  | [], j, l4, e, hK, h4, K0 => by
    have hj : (kids J.2.2.1 p)[j]? = some n := by
      have := congrArg (fun l => l[0]?) e
      simpa using this
    rw [hj]
    rcases h4 with rfl | rfl
    · rw [if_neg (by simp)] at K0; exact K0
    · rw [if_pos (Or.inl rfl)] at K0; exact K0
  | i :: K, j, l4, e, hK, h4, K0 => by
    have hj : (kids J.2.2.1 p)[j]? = some i := by
      have := congrArg (fun l => l[0]?) e
      simpa using this
    have e' : (kids J.2.2.1 p).drop (j + 1) = K ++ n :: L2 := by
      have := congrArg (List.drop 1) e
      rw [List.drop_drop] at this
      simpa using this
    obtain ⟨i1, i2, i3⟩ := hT.kc hp hj
    obtain ⟨ne, vi⟩ := hK i List.mem_cons_self
    rw [hj]
    have ec : lkI J.2.2.2 (some i) = nI (J.2.2.2 i) := rfl
    rw [ec]
    have xi := hT.x i1
    have ci := hT.c i1
    have eq := NM.eq hN ((hT.2.1 i i1).2.2.2.2.1 vi) ((hT.2.1 n hn).2.2.2.2.1 hvn)
    have nx : ∀ u, (u = 0 ∨ u = 1) → (u = 1 ↔ (l4 = 1 ∨ sm J n i = true)) → yP (xg xs) (d + 1) 345 246 [(0, .ref 58), (1, .int (nI (J.2.2.2 n))), (3, .int l3), (5, .int (nI (J.2.2.2 i)))] [.int u] m Q := by
      intro u hu iff
      refine w345_246 xs d _ _ _ _ m _ ⟨xi, ?_⟩
      rw [ci, i3]
      refine c345L xs d hN hT hp hn hvn K (j + 1) u e' (fun a ha => hK a (List.mem_cons_of_mem _ ha)) hu ?_
      have : (u = 1 ∨ K.any (sm J n) = true) ↔ (l4 = 1 ∨ (i :: K).any (sm J n) = true) := by
        rw [List.any_cons, Bool.or_eq_true, iff]
        constructor
        · rintro ((q | q) | q)
          · exact Or.inl q
          · exact Or.inr (Or.inl q)
          · exact Or.inr (Or.inr q)
        · rintro (q | q | q)
          · exact Or.inl (Or.inl q)
          · exact Or.inl (Or.inr q)
          · exact Or.inr q
      by_cases w : l4 = 1 ∨ (i :: K).any (sm J n) = true
      · rw [if_pos w] at K0; rw [if_pos (this.mpr w)]; exact K0
      · rw [if_neg w] at K0; rw [if_neg (fun y => w (this.mp y))]; exact K0
    have yes : (l4 = 1 ∨ sm J n i = true) → yP (xg xs) (d + 1) 345 241 [(0, .ref 58), (1, .int (nI (J.2.2.2 n))), (3, .int l3), (5, .int (nI (J.2.2.2 i)))] [] m Q := fun y => w345_241 xs d _ _ _ m _ (nx 1 (Or.inr rfl) ⟨fun _ => y, fun _ => rfl⟩)
    refine w345_214 xs d _ _ _ _ m _ ⟨fun z => ?_, fun _ => ⟨fun z => yes (Or.inl (h4.resolve_left z)), fun z => ⟨xi, hT.x hn, ?_⟩⟩⟩
    · have := (nI_eq (by have := hT.i i1; omega) (by have := hT.i hn; omega)).mp z
      exact absurd (hT.2.2.1 i n i1 hn this) ne
    · rw [ci, hT.c hn]
      refine ⟨fun w => nx 0 (Or.inl rfl) ⟨fun y => absurd y (by decide), fun y => ?_⟩, fun w => yes (Or.inr (decide_eq_true (eq.mpr w)))⟩
      rcases y with y | y
      · rw [z] at y; exact absurd y (by decide)
      · exact absurd (eq.mp (decide_eq_true_iff.mp y)) w
/-- the instance is one -/
abbrev gdI (σ : RS) (x : Int32) : Prop := ¬ fVar σ x = -1 ∧ frm σ (fVar σ x).toNatClampNeg = 10
theorem c345 (xs : List Int32) (d : Nat) {J : JV} (hO : JO J) {D : Nat → Prop} {σ : RS} {m : yM} (h : RJ J D σ m) (h0 : 0 < σ.1.length) (hd : dsB σ) (hP : PV σ) (hD : allD σ) {A : List Nat} {n p : Nat} (hA : fPar A = p) (hp : p < J.2.2.1.length) (n1 : n + 1 < J.2.2.1.length) (hnD : ¬ D n) {L1 L2 : List Nat} (hkp : kids J.2.2.1 p = L1 ++ n :: L2) (hL1 : kds J.2.2.1 n (n - (p + 1)) (p + 1) = L1) (hvp : ¬ vtF J.2.2.1 p = 0) (evp : σ.2.2.2.1 p = vF J.2.2.1 p) (hvn : ¬ vtF J.2.2.1 n = 0) (evn : σ.2.2.2.1 n = vF J.2.2.1 n) (hS : ∀ i, i ∈ L1 → ¬ i = n ∧ ¬ vtF J.2.2.1 i = 0 ∧ (∀ v, fVar σ (vF J.2.2.1 p) = nI v → v < σ.2.1.length → frm σ v = 10 → ¬ prt σ (σ.2.2.2.1 (vD σ v).2.1) (vF J.2.2.1 i) 1 = -1 ∧ σ.2.2.2.1 i = (vD σ v).2.2.2 + (prt σ (σ.2.2.2.1 (vD σ v).2.1) (vF J.2.2.1 i) 1 >>> ((2 : Int32) &&& 31)))) (hK : kids J.2.2.1 n = [n + 1]) (k1 : exK (kK J.2.2.1 (n + 1))) (d1 : D (n + 1)) (kn : kK J.2.2.1 n = 14) : yC (xg xs) (d + 6) 345 [.ref 58, .int (nI (J.2.2.2 n))] m (JQp J (fun i => D i ∨ (i = n ∧ gdI σ (vF J.2.2.1 p))) m n (lkPrm J.2.2.1 σ A n)) := by
  have hT := h.1
  have hR := h.2.1
  have hn : n < J.2.2.1.length := by omega
  have hB := hR.nB.2
  have n2 := hR.nV.2
  have ei := hT.c hn
  have xi := hT.x hn
  have c1 := hT.c n1
  have x1 := hT.x n1
  have cp := hT.c hp
  have xp := hT.x hp
  have t84 := h.t d1 k1
  have e0 := hT.k0 hn (c := n + 1) (by rw [hK]; rfl)
  have up := (hT.up hp (n := n) ⟨L1.length, by rw [hkp, List.getElem?_append_right (Nat.le_refl _), Nat.sub_self]; rfl⟩).2
  have hxp := (hT.2.1 p hp).2.2.2.2.1 hvp
  have hxn := (hT.2.1 n hn).2.2.2.2.1 hvn
  unfold lkPrm
  rw [hA, evp, evn]
  generalize hX : vF J.2.2.1 p = x at hxp hS
  have ng : ¬ gdI σ x → RJ J (fun i => D i ∨ (i = n ∧ gdI σ x)) σ m := fun z => ⟨hT, hR, fun i hi => hi.elim (h.2.2 i) (fun y => absurd y.2 z)⟩
  refine w345_0 xs (d + 5) _ m _ ⟨xi, ?_⟩
  rw [ei, up, cp]
  refine ⟨xp, y_ci (c337 xs (d + 3) hO.1 hR h0 hd hxp) (by omega) ?_⟩
  rcases fVar_c σ x with q1 | ⟨v, v1, v2, v3⟩
  · rw [if_pos q1]
    exact ⟨fun _ => ⟨rfl, JP.re (J.2.2.2 n) m, ng (fun z => z.1 q1)⟩, fun z => absurd q1 z⟩
  · have q1 : ¬ fVar σ x = -1 := by rw [v2]; exact nI_m1 (by omega)
    have cv : (nI v).toNatClampNeg = v := nI_clamp (by omega)
    have xv : x_in (nI v) 4700 = true := x_in_nI (by omega) (by decide)
    have vo := hD v v1
    obtain ⟨-, hvd⟩ := hR.d vo
    have sh := shp hvd
    have e80 := hvd.2.2.1
    rw [if_neg q1]
    refine ⟨fun z => absurd z q1, fun _ => ?_⟩
    rw [v2, cv]
    refine ⟨xv, ?_⟩
    by_cases q2 : frm σ v = 10
    · have gd : gdI σ x := ⟨q1, by rw [v2, cv]; exact q2⟩
      rw [if_pos q2]
      refine ⟨fun _ => ⟨xv, ?_⟩, fun z => absurd (sh.2.2.mpr q2) z⟩
      unfold lkPrmP
      rw [hL1]
      generalize hq : prt σ (σ.2.2.2.1 (vD σ v).2.1) (vF J.2.2.1 n) 1 = q
      -- who is told twice
      have dup : ¬ q = -1 → L1.any (agB σ ((vD σ v).2.2.2 + (q >>> ((2 : Int32) &&& 31)))) = L1.any (sm J n) := by
        intro nq
        have key : ∀ i, i ∈ L1 → agB σ ((vD σ v).2.2.2 + (q >>> ((2 : Int32) &&& 31))) i = sm J n i := by
          intro i hi
          obtain ⟨-, -, s3⟩ := hS i hi
          obtain ⟨s3, s4⟩ := s3 v v2 v1 q2
          refine decide_eq_decide.mpr ⟨fun z => ?_, fun z => ?_⟩
          · rw [s4] at z
            have z := Int32.add_left_inj _ |>.mp ((Int32.add_comm _ _).trans (z.trans (Int32.add_comm _ _)))
            refine prt_i hR hP hD vo q2 s3 (by rw [hq]; exact nq) (by rw [hq]; exact z)
          · rw [s4, z, hq]
        have aux : ∀ K : List Nat, (∀ i, i ∈ K → i ∈ L1) → K.any (agB σ ((vD σ v).2.2.2 + (q >>> ((2 : Int32) &&& 31)))) = K.any (sm J n) := by
          intro K
          induction K with
          | nil => intro _; rfl
          | cons a K ih =>
            intro hK
            rw [List.any_cons, List.any_cons, key a (hK a List.mem_cons_self), ih (fun i hi => hK i (List.mem_cons_of_mem _ hi))]
        exact aux L1 (fun _ hi => hi)
      -- the end
      have s181 : ∀ (s a : Int32), PQ q s ((vD σ v).2.2.2) a → yP (xg xs) (d + 6) 345 181 [(0, .ref 58), (1, .int (nI (J.2.2.2 n))), (3, .int s)] [] (y_si m 86 (J.2.2.2 n) a) (JQp J (fun i => D i ∨ (i = n ∧ gdI σ x)) m n (if q = -1 then .inr 32 else if L1.any (agB σ ((vD σ v).2.2.2 + (q >>> ((2 : Int32) &&& 31)))) = true then .inr 33 else if ftP (σ.2.2.2.2 (n + 1)) (q &&& 3) then .inl (setV σ n ((vD σ v).2.2.2 + (q >>> ((2 : Int32) &&& 31)))) else .inr 31)) := by
        intro s a hq
        obtain ⟨g1, g2⟩ := hq.g
        have jk : JP (J.2.2.2 n) m (y_si m 86 (J.2.2.2 n) a) := (JP.re (J.2.2.2 n) m).si (by omega)
        have f1 : (y_si m 86 (J.2.2.2 n) a).1 58 3 = 0 := by rw [y_si_at, if_neg (by omega)]; exact hR.f0
        have b84 : (y_si m 86 (J.2.2.2 n) a).1 84 (J.2.2.2 (n + 1)) = σ.2.2.2.2 (n + 1) := by rw [y_si_at, if_neg (by omega)]; exact t84
        have good : ¬ q = -1 → RJ J (fun i => D i ∨ (i = n ∧ gdI σ x)) (setV σ n a) (y_si m 86 (J.2.2.2 n) a) := by
          intro _
          have := RJ.upp h hn jk (σ' := setV σ n a) (fun b i h1 h2 => by rw [y_si_at, if_neg (by omega)]) (fun b i h1 h2 h3 => by rw [y_si_at, if_neg (fun z => h3 z.2)]) (fun i hi => by rw [y_si_at, if_neg (by omega)]) rfl rfl (fun i hi => ⟨rfl, upI_o _ _ hi, rfl⟩) (by omega) (fun z => by omega) ⟨fun z => by omega, fun z => by omega, fun _ => by rw [y_si_same]; exact (upI_n _ _ _).symm, fun z => by omega⟩
          exact ⟨this.1, this.2.1, fun i hi => this.2.2 i (hi.imp id And.left)⟩
        generalize hm0 : y_si m 86 (J.2.2.2 n) a = m0 at jk f1 b84 good
        have hT0 := hT.kp jk
        -- behind the first rule
        have s214 : ∀ (b : Bool), b = decide (q = -1) → ∀ l4 : Int32, l4 = (if L1.any (sm J n) = true then 1 else 0) → yP (xg xs) (d + 6) 345 214 [(0, .ref 58), (1, .int (nI (J.2.2.2 n))), (3, .int s), (4, .int l4), (5, .int (nI (J.2.2.2 n)))] [] (flb J m0 32 n b) (JQp J (fun i => D i ∨ (i = n ∧ gdI σ x)) m n (if q = -1 then .inr 32 else if L1.any (agB σ ((vD σ v).2.2.2 + (q >>> ((2 : Int32) &&& 31)))) = true then .inr 33 else if ftP (σ.2.2.2.2 (n + 1)) (q &&& 3) then .inl (setV σ n ((vD σ v).2.2.2 + (q >>> ((2 : Int32) &&& 31)))) else .inr 31)) := by
          intro b hb l4 h4
          have l01 : l4 = 0 ∨ l4 = 1 := by rw [h4]; split <;> simp
          -- a fault stands
          have flt : ∀ (c : Int32) (m2 : yM), JP (J.2.2.2 n) m m2 → FE J c n m2 → yC (xg xs) (d + 5) 323 [.ref 58, .int (33 : Int32), .int l4, .int (nI (J.2.2.2 n))] m2 (fun v1 m1 => v1 = none ∧ (x_in (nI (J.2.2.2 n)) 20000 = true ∧ (x_in (m1.1 66 (nI (J.2.2.2 n)).toNatClampNeg) 20000 = true ∧ (yC (xg xs) (d + 5) 343 [.int (m1.1 84 ((m1.1 66 (nI (J.2.2.2 n)).toNatClampNeg).toNatClampNeg)), .int s] m1 (fun v2 m2 => ∃ u2, v2 = some (Value.int u2) ∧ ((¬ u2 = 0 → yP (xg xs) (d + 6) 345 295 [(1, .int (nI (J.2.2.2 n)))] [.int (0 : Int32), .int (31 : Int32), .ref 58] m2 (JQp J (fun i => D i ∨ (i = n ∧ gdI σ x)) m n (.inr c))) ∧ (u2 = 0 → yP (xg xs) (d + 6) 345 295 [(1, .int (nI (J.2.2.2 n)))] [.int (1 : Int32), .int (31 : Int32), .ref 58] m2 (JQp J (fun i => D i ∨ (i = n ∧ gdI σ x)) m n (.inr c))))))))) := by
            intro c m2 jk2 fe
            have hT2 := hT.kp jk2
            refine rl2 (by omega) (hT.i hn) l01 fe.ne ⟨xi, ?_, ?_⟩
            · rw [ei, hT2.k0 hn (c := n + 1) (by rw [hK]; rfl)]; exact x1
            · refine y_ci (c343 xs (d + 4) m2 _ _) (by omega) ⟨fun _ => w345_295 xs (d + 5) _ _ _ m2 _ (rl0 ⟨rfl, jk2, fe⟩), fun _ => w345_295 xs (d + 5) _ _ _ m2 _ (rl2 (by omega) (hT.i hn) (Or.inr rfl) fe.ne ⟨rfl, jk2, fe⟩)⟩
          refine w345_214 xs (d + 5) _ _ _ _ _ _ ⟨fun _ => ?_, fun z => absurd rfl z⟩
          by_cases nq : q = -1
          · rw [if_pos nq, hb, decide_eq_true nq, flb_t]
            exact flt 32 _ (jk.fl J 32 n) (FE.mk J m0 (by decide) n)
          · rw [if_neg nq, hb, decide_eq_false nq, flb_f, dup nq]
            obtain ⟨g3, g4, g5⟩ := g2 nq
            rw [← g4, ← g5]
            by_cases du : L1.any (sm J n) = true
            · rw [if_pos du] at h4 ⊢
              subst h4
              refine rl1 (by omega) hT0 hn f1 ⟨xi, ?_, ?_⟩
              · rw [ei, (hT.kp (jk.fl J 33 n)).k0 hn (c := n + 1) (by rw [hK]; rfl)]; exact x1
              · have fe := FE.mk J m0 (show (0 : Int32) < 33 by decide) n
                have jk2 := jk.fl J 33 n
                exact y_ci (c343 xs (d + 4) _ _ _) (by omega) ⟨fun _ => w345_295 xs (d + 5) _ _ _ _ _ (rl0 ⟨rfl, jk2, fe⟩), fun _ => w345_295 xs (d + 5) _ _ _ _ _ (rl2 (by omega) (hT.i hn) (Or.inr rfl) fe.ne ⟨rfl, jk2, fe⟩)⟩
            · rw [if_neg du] at h4 ⊢
              subst h4
              refine rl0 ⟨xi, ?_, ?_⟩
              · rw [ei, hT0.k0 hn (c := n + 1) (by rw [hK]; rfl)]; exact x1
              · rw [ei, hT0.k0 hn (c := n + 1) (by rw [hK]; rfl), c1, b84]
                refine y_ci (c343 xs (d + 4) m0 _ _) (by omega) ⟨fun w => ?_, fun w => ?_⟩
                · rw [if_pos (if1 w)]
                  exact w345_295 xs (d + 5) _ _ _ m0 _ (rl0 ⟨rfl, jk, good nq⟩)
                · rw [if_neg (if0 w)]
                  exact w345_295 xs (d + 5) _ _ _ m0 _ (rl1 (by omega) hT0 hn f1 ⟨rfl, jk.fl J 31 n, FE.mk J m0 (by decide) n⟩)
        have s194 : ∀ (u : Int32) (b : Bool), u = (if b = true then 1 else 0) → b = decide (q = -1) → yP (xg xs) (d + 6) 345 194 [(0, .ref 58), (1, .int (nI (J.2.2.2 n))), (3, .int s)] [.int u, .int (32 : Int32), .ref 58] m0 (JQp J (fun i => D i ∨ (i = n ∧ gdI σ x)) m n (if q = -1 then .inr 32 else if L1.any (agB σ ((vD σ v).2.2.2 + (q >>> ((2 : Int32) &&& 31)))) = true then .inr 33 else if ftP (σ.2.2.2.2 (n + 1)) (q &&& 3) then .inl (setV σ n ((vD σ v).2.2.2 + (q >>> ((2 : Int32) &&& 31)))) else .inr 31)) := by
          intro u b hu hb
          refine w345_194 xs (d + 5) _ _ _ _ m0 _ (rlb (by omega) (by decide) hT0 hn f1 false b hu ?_)
          rw [Bool.false_or]
          have hTb := hT.kp (jk.fb J 32 n b)
          have upb := (hTb.up hp (n := n) ⟨L1.length, by rw [hkp, List.getElem?_append_right (Nat.le_refl _), Nat.sub_self]; rfl⟩).2
          rw [ei, upb, cp, (hTb.2.1 p hp).2.2.2.2.2.1]
          refine ⟨xi, xp, ?_⟩
          refine c345L xs (d + 5) hO.1 hTb hp hn hvn L1 0 0 (L2 := L2) (by rw [List.drop_zero]; exact hkp) (fun i hi => ⟨(hS i hi).1, (hS i hi).2.1⟩) (Or.inl rfl) ?_
          refine s214 b hb _ ?_
          by_cases du : L1.any (sm J n) = true
          · rw [if_pos du, if_pos (Or.inr du)]
          · rw [if_neg du, if_neg (fun z => z.elim (fun z => absurd z (by decide)) du)]
        refine w345_181 xs (d + 5) _ _ m0 _ ⟨fun z => s194 0 false rfl (decide_eq_false (fun y => z (g1.mp y))).symm, fun z => s194 1 true rfl (decide_eq_true (g1.mpr z)).symm⟩
      have s180 : ∀ (s a : Int32), PQ q s ((vD σ v).2.2.2) a → yP (xg xs) (d + 6) 345 180 [(0, .ref 58), (1, .int (nI (J.2.2.2 n))), (3, .int s)] [.int a, .int (nI (J.2.2.2 n)), .ref 86] m (JQp J (fun i => D i ∨ (i = n ∧ gdI σ x)) m n (if q = -1 then .inr 32 else if L1.any (agB σ ((vD σ v).2.2.2 + (q >>> ((2 : Int32) &&& 31)))) = true then .inr 33 else if ftP (σ.2.2.2.2 (n + 1)) (q &&& 3) then .inl (setV σ n ((vD σ v).2.2.2 + (q >>> ((2 : Int32) &&& 31)))) else .inr 31)) := fun s a hq => w345_180 xs (d + 5) _ _ _ _ _ _ ⟨xi, by rw [ei]; exact s181 s a hq⟩
      rcases prt_c hvd q2 hP vo hB (vF J.2.2.1 n) 1 with ⟨k, k1, k2, k3, k4⟩ | ⟨b, b1, b2, b3, b4, b5⟩
      · rw [hq] at k4
        rw [k2]
        refine ⟨fun z => ?_, fun _ => ⟨xv, xi, ?_⟩⟩
        · have := (nI_leI (a := 100) (by omega) (by omega)).mp z
          omega
        · obtain ⟨p', hp', cp'⟩ := c346r xs d hO hT hxn k1 (o := 0) (sec := 1) (Or.inl ⟨rfl, rfl⟩)
          rw [← k4] at hp'
          refine y_ci cp' (by omega) ⟨fun z => ⟨by decide, ?_⟩, fun z => ?_⟩
          · rcases hp' with ⟨y, -⟩ | ⟨c, t, hc, ht, e1, e2⟩
            · exact absurd y z
            · obtain ⟨r1, r2, r3⟩ := p10 c hc t ht
              rw [e1, r2]
              refine w345_79 xs (d + 5) _ _ _ _ m _ ⟨xv, by decide, xi, ?_⟩
              rw [r1, cv, e80, ei]
              exact s181 _ _ (Or.inr ⟨c, t, by omega, ht, e2, rfl, rfl⟩)
          · rcases hp' with ⟨-, y⟩ | ⟨c, t, hc, ht, e1, e2⟩
            · refine w345_79 xs (d + 5) _ _ _ _ m _ ⟨xv, by decide, xi, ?_⟩
              rw [ei]
              exact s181 _ _ (Or.inl ⟨y, rfl⟩)
            · rw [e1] at z
              exact absurd z (p10 c hc t ht).2.2
      · rw [hq] at b5
        rw [b2]
        refine ⟨fun _ => ⟨xv, xi, ?_⟩, fun z => absurd (show (100 : Int32) ≤ nI (b + 100) from nI_le (a := 100) (by omega) (by omega)) z⟩
        rw [show nI (b + 100) - 100 = nI b from nI_sub (b := 100) (by omega)]
        refine y_ci (c338 xs (d + 4) hO.1 hR b1 hxn) (by omega) ?_
        rcases pt_r hR hP hD b1 (x := vF J.2.2.1 n) (w := 1) (Or.inl rfl) with ⟨q1, q2⟩ | ⟨u, u1, u2, u3, u4, u5, u6, u7, u8⟩
        · rw [q1]
          refine ⟨fun _ => w345_149 xs (d + 5) _ _ _ m _ (w345_150 xs (d + 5) _ _ _ _ m _ ⟨fun z => absurd rfl z, fun _ => s180 _ _ (Or.inl ⟨b5.trans q2, rfl⟩)⟩), fun z => absurd rfl z⟩
        · rw [u6]
          have xu : x_in (nI u) 4700 = true := x_in_nI (by omega) (by decide)
          have cu : (nI u).toNatClampNeg = u := nI_clamp (by omega)
          have nu : ¬ nI u = -1 := nI_m1 (by omega)
          refine ⟨fun z => absurd z nu, fun _ => ⟨xu, ?_⟩⟩
          rw [cu]
          refine ⟨fun z => w345_149 xs (d + 5) _ _ _ m _ (w345_150 xs (d + 5) _ _ _ _ m _ ⟨fun _ => ⟨xv, xu, s180 _ _ (Or.inl ⟨b5.trans (u7 z), rfl⟩)⟩, fun y => absurd y nu⟩), fun z => ⟨xu, ?_⟩⟩
          obtain ⟨c, t, r1, r2, r3, r4, r5, r6⟩ := u8 z
          refine w345_150 xs (d + 5) _ _ _ _ m _ ⟨fun _ => ⟨xv, xu, ?_⟩, fun y => absurd y nu⟩
          rw [cv, cu, e80, r4, r5]
          exact s180 _ _ (Or.inr ⟨c, t, r1, r2, b5.trans r3, rfl, rfl⟩)
    · rw [if_neg q2]
      refine ⟨fun z => absurd (sh.2.2.mp z) q2, fun _ => ⟨rfl, JP.re (J.2.2.2 n) m, ng (fun z => q2 ?_)⟩⟩
      have := z.2
      rw [v2, cv] at this
      exact this
