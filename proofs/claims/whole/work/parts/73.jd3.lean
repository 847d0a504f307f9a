/-! THE REFERENCE'S RULES: beginBlock -/
theorem c322 (xs : List Int32) (d : Nat) {J : JV} (hO : JO J) {D : Nat → Prop} {σ : RS} {m : yM} (h : RJ J D σ m) {n : Nat} (hn : n < J.2.2.1.length) (hB : σ.1.length < 399) (hV : σ.2.1.length < 4096) (hk : bkN (σ.2.2.1 n)) (hkn : σ.2.2.1 n = nI (kK J.2.2.1 n)) (hvn : σ.2.2.2.1 n = vF J.2.2.1 n) (hvt : ¬ vtF J.2.2.1 n = 0) (h8 : kK J.2.2.1 n = 1 → (kids J.2.2.1 n)[0]? = some (n + 1) ∧ n + 1 < J.2.2.1.length ∧ (kK J.2.2.1 (n + 1) = 8 ∧ σ.2.2.1 (n + 1) = 8) ∧ vtF J.2.2.1 (n + 1) = 0 ∧ σ.2.2.2.1 (n + 1) = vF J.2.2.1 (n + 1)) : yC (xg xs) (d + 6) 322 [.ref 58, .int (nI (J.2.2.2 n))] m (JQw J D m n (lkBeg σ n)) := by
  obtain ⟨hT, hR, hD⟩ := h
  have nx := hT.2.1 n hn
  have f0 := hR.f0
  have hx : NM J (vF J.2.2.1 n) (m.1 64 (J.2.2.2 n)) := nx.2.2.2.2.1 hvt
  have ei := hT.c hn
  have xi := hT.x hn
  have h4 : σ.1.length ≤ 399 := by omega
  have p29 := hR.1.2.2.2.2.2
  unfold lkBeg
  rw [hvn]
  generalize hX : vF J.2.2.1 n = x at hx hvn
  generalize hY : m.1 64 (J.2.2.2 n) = y at hx
  refine w322_0 xs (d + 5) _ m _ ⟨xi, ?_⟩
  rw [ei, hY, p29]
  by_cases b3 : inB σ 3
  · rw [if_pos b3]
    rw [if_pos b3]
    refine rl1 (by omega) hT hn f0 ?_
    have hT1 := hT.kw ((JW.re m).fl J 10 n)
    have fe := FE.mk J m (show (0 : Int32) < 10 by decide) n
    have jk : JW m (flM2 J m 10 n) := (JW.re m).fl J 10 n
    have bn := hR.bn.fl 10 n
    generalize flM2 J m 10 n = m1 at hT1 fe jk bn
    refine y_ci (c324 xs d hO hT1 hx) (by omega) ?_
    refine c322L xs (d + 5) hO.1 h4 hx bn σ.1.length 0 _ (by omega) (by split <;> simp) ?_
    rw [agA_0 h4]
    refine w322_27 xs (d + 5) _ _ _ _ m1 _ ⟨fun _ => ?_, fun z => absurd ?_ z⟩
    · refine rl2 (by omega) (hT.i hn) (by split <;> simp) fe.ne ⟨fun z => absurd z fe.nle, fun _ => ⟨rfl, jk, fe⟩⟩
    · rw [bn.1]; exact nI_le (Nat.le_refl _) (by omega)
  · rw [if_neg b3]
    rw [if_neg b3]
    refine rl0 ?_
    refine y_ci (c324 xs d hO hT hx) (by omega) ?_
    refine c322L xs (d + 5) hO.1 h4 hx hR.bn σ.1.length 0 _ (by omega) (by split <;> simp) ?_
    rw [agA_0 h4]
    have n1 := hR.nB.1
    refine w322_27 xs (d + 5) _ _ _ _ m _ ⟨fun _ => ?_, fun z => absurd ?_ z⟩
    rotate_left
    · rw [n1]; exact nI_le (Nat.le_refl _) (by omega)
    by_cases ag : isSt x ∨ ¬ bix σ.1 x σ.1.length = -1
    · rw [if_pos ag, if_pos ag]
      refine rl1 (by omega) hT hn f0 ?_
      have fe := FE.mk J m (show (0 : Int32) < 11 by decide) n
      have jk : JW m (flM2 J m 11 n) := (JW.re m).fl J 11 n
      exact ⟨fun z => absurd z fe.nle, fun _ => ⟨rfl, jk, fe⟩⟩
    · rw [if_neg ag, if_neg ag]
      refine rl0 ⟨fun _ => ⟨xi, ?_⟩, fun z => absurd (by rw [f0]; decide) z⟩
      rw [ei, nx.2.1]
      obtain ⟨v1, v2⟩ := hR.nV
      have k62m := nx.2.1
      generalize hK : kK J.2.2.1 n = k at hkn h8 k62m ⊢
      have k37 : k = 1 ∨ k = 2 ∨ k = 3 := by
        have k9 : k < 2 ^ 31 := by
          rw [← hK]
          unfold kK
          exact Int32.toNatClampNeg_lt _
        rw [hkn] at hk
        rcases hk with q | q | q
        · exact Or.inl ((nI_eq (a := k) (b := 1) k9 (by omega)).mp q)
        · exact Or.inr (Or.inl ((nI_eq (a := k) (b := 2) k9 (by omega)).mp q))
        · exact Or.inr (Or.inr ((nI_eq (a := k) (b := 3) k9 (by omega)).mp q))
      have e3 : (nI k = 3) ↔ k = 3 := nI_eq (a := k) (b := 3) (by omega) (by omega)
      have e1 : (nI k = 1) ↔ k = 1 := nI_eq (a := k) (b := 1) (by omega) (by omega)
      -- the writes
      have go : ∀ s1 : Int32, s1 = (if k = 3 then 1 else 0) → yP (xg xs) (d + 6) 322 95 [(0, .ref 58), (1, .int (nI (J.2.2.2 n))), (2, .int y)] [.int s1, .ref 58] m (JQw J D m n (.inl (beg σ n (σ.2.2.1 n) x))) := by
        intro s1 hs1
        have xb : x_in (nI σ.1.length) 400 = true := x_in_nI (by omega) (by decide)
        have xb1 : x_in (nI σ.1.length) 401 = true := x_in_nI (by omega) (by decide)
        have xc : (nI σ.1.length).toNatClampNeg = σ.1.length := nI_clamp (by omega)
        -- behind the cells
        have fin : ∀ c : Int32, c = (if k = 1 then 1 else if k = 3 then 960 else 0) → yP (xg xs) (d + 6) 322 170 [(0, .ref 58), (1, .int (nI (J.2.2.2 n))), (2, .int y)] [.int c, .int (nI σ.1.length), .ref 72] (y_si (y_si (y_si (y_si m 58 29 s1) 70 σ.1.length (nI (J.2.2.2 n))) 71 σ.1.length y) 73 σ.1.length (nI σ.2.1.length)) (JQw J D m n (.inl (beg σ n (σ.2.2.1 n) x))) := by
          intro c hc
          refine w322_170 xs (d + 5) _ _ _ _ _ _ ⟨xb, xi, ?_⟩
          rw [ei, xc]
          generalize hm1 : y_si (y_si (y_si (y_si (y_si m 58 29 s1) 70 σ.1.length (nI (J.2.2.2 n))) 71 σ.1.length y) 73 σ.1.length (nI σ.2.1.length)) 72 σ.1.length c = m1
          have o58 : ∀ i, i ≠ 29 → m1.1 58 i = m.1 58 i := fun i hi => by
            rw [← hm1]
            rw [y_si_at, if_neg (by omega), y_si_at, if_neg (by omega), y_si_at, if_neg (by omega), y_si_at, if_neg (by omega), y_si_at, if_neg (by omega)]
          have k62 : (y_si (y_si (y_si (y_si m 58 29 s1) 70 σ.1.length (nI (J.2.2.2 n))) 71 σ.1.length y) 73 σ.1.length (nI σ.2.1.length)).1 62 (J.2.2.2 n) = nI k := by
            rw [y_si_at, if_neg (by omega), y_si_at, if_neg (by omega), y_si_at, if_neg (by omega), y_si_at, if_neg (by omega)]
            exact k62m
          have k23 : (y_si (y_si (y_si (y_si m 58 29 s1) 70 σ.1.length (nI (J.2.2.2 n))) 71 σ.1.length y) 73 σ.1.length (nI σ.2.1.length)).1 58 23 = nI σ.1.length := by
            rw [y_si_at, if_neg (by omega), y_si_at, if_neg (by omega), y_si_at, if_neg (by omega), y_si_at, if_neg (by omega)]
            exact n1
          rw [k62, k23, nI_1]
          have jk1 : JW m m1 := by
            rw [← hm1]
            exact (((((JW.re m).si (by omega)).si (by omega)).si (by omega)).si (by omega)).si (by omega)
          generalize hm2 : y_si m1 58 23 (nI (σ.1.length + 1)) = m2
          have jk2 : JW m m2 := by rw [← hm2]; exact jk1.si (by omega)
          have at2 : ∀ a i, m2.1 a i = if a = 58 ∧ i = 23 then nI (σ.1.length + 1) else m1.1 a i := fun a i => by rw [← hm2, y_si_at]
          have at1 : ∀ a i, m1.1 a i = if a = 72 ∧ i = σ.1.length then c else if a = 73 ∧ i = σ.1.length then nI σ.2.1.length else if a = 71 ∧ i = σ.1.length then y else if a = 70 ∧ i = σ.1.length then nI (J.2.2.2 n) else if a = 58 ∧ i = 29 then s1 else m.1 a i := fun a i => by
            rw [← hm1]
            simp only [y_si_at]
          have rb : RB J (σ.1 ++ [(nI k, n, x, c, σ.2.1.length)], σ.2) m2 := by
            refine RB.bg (D := D) hR (by omega) b3 hn hK hx (fun a i h1 h2 h3 => ?_) ?_ ?_ ?_ ?_ ?_ ?_ ?_ ?_
            · rw [at2, if_neg (by omega), at1, if_neg (by omega), if_neg (by omega), if_neg (by omega), if_neg (by omega), if_neg (by omega)]
            · rw [at2, if_neg (by omega), o58 3 (by omega)]; exact f0
            · rw [at2, if_neg (by omega), o58 30 (by omega)]
            · rw [at2, if_pos ⟨rfl, rfl⟩]
            · rw [at2, if_neg (by omega), at1, if_neg (by omega), if_neg (by omega), if_neg (by omega), if_neg (by omega), if_pos ⟨rfl, rfl⟩, hs1]
            · rw [at2, if_neg (by omega), at1, if_neg (by omega), if_neg (by omega), if_neg (by omega), if_pos ⟨rfl, rfl⟩]
            · rw [at2, if_neg (by omega), at1, if_neg (by omega), if_neg (by omega), if_pos ⟨rfl, rfl⟩]
            · rw [at2, if_neg (by omega), at1, if_pos ⟨rfl, rfl⟩]
            · rw [at2, if_neg (by omega), at1, if_neg (by omega), if_pos ⟨rfl, rfl⟩]
          have nd : ∀ (τ : RS) (m3 : yM), τ.2.2 = σ.2.2 → (∀ a i, 83 < a → a < 89 → m3.1 a i = m2.1 a i) → ∀ i, D i → i < J.2.2.1.length ∧ nvR J τ m3 i := fun τ m3 e1 e2 => RJ.nd hD e1 (fun a i h1 h2 => by
            rw [e2 a i h1 h2, at2, if_neg (by omega), at1, if_neg (by omega), if_neg (by omega), if_neg (by omega), if_neg (by omega), if_neg (by omega)])
          refine ⟨fun w => ?_, fun w => ?_⟩
          · -- no FUNCTION
            have k1 : ¬ k = 1 := fun z => w (e1.mpr z)
            refine ⟨rfl, jk2, hT.kw jk2, ?_, nd _ _ ?_ (fun _ _ _ _ => rfl)⟩
            · have eb : beg σ n (σ.2.2.1 n) x = (σ.1 ++ [(nI k, n, x, c, σ.2.1.length)], σ.2) := by
                unfold beg beg0
                rw [hkn, if_neg (fun z => k1 (e1.mp z)), hc, if_neg k1]
                by_cases z : k = 3
                · rw [if_pos z, if_pos (e3.mpr z)]
                · rw [if_neg z, if_neg (fun q => z (e3.mp q))]
              rw [eb]
              exact rb
            · unfold beg beg0
              rw [hkn, if_neg (fun z => k1 (e1.mp z))]
          · -- a FUNCTION's own name
            have k1 : k = 1 := e1.mp w
            obtain ⟨g1, g2, g3, g4, g5⟩ := h8 k1
            have v30 : m2.1 58 30 = nI σ.2.1.length := by rw [at2, if_neg (by omega), o58 30 (by omega)]; exact v1
            refine y_ci (c326 xs (d + 4) v30 (by omega) y) (by omega) ?_
            have xv : x_in (nI σ.2.1.length) 4700 = true := x_in_nI (by omega) (by decide)
            have cv : (nI σ.2.1.length).toNatClampNeg = σ.2.1.length := nI_clamp (by omega)
            have jk3 : JW m (nwV m2 σ.2.1.length y) := by
              unfold nwV
              exact (((((jk2.si (by omega)).si (by omega)).si (by omega)).si (by omega)).si (by omega)).si (by omega)
            have hT3 := hT.kw jk3
            have nx3 := hT3.2.1 n hn
            have f66 : (nwV m2 σ.2.1.length y).1 66 (J.2.2.2 n) = nI (J.2.2.2 (n + 1)) := by rw [nx3.2.2.2.2.2.1, g1]; rfl
            have val : (nwV m2 σ.2.1.length y).1 64 (J.2.2.2 (n + 1)) = vF J.2.2.1 (n + 1) := (hT3.2.1 (n + 1) g2).2.2.2.1 g4
            rw [f66, cv, hT.c g2, val]
            have atn := nwV_at m2 σ.2.1.length y
            have rd : RB J (decl (σ.1 ++ [(nI k, n, x, c, σ.2.1.length)], σ.2) x) (nwV m2 σ.2.1.length y) := by
              refine RB.dc rb (by exact hV) hx (fun a i h1 h2 h3 => ?_) (fun i hi => ?_) ?_ ?_ ?_
              · have h3 : ¬ (74 < a ∧ i = σ.2.1.length) := h3
                rw [atn, if_neg (by omega), if_neg (by omega), if_neg (by omega), if_neg (by omega), if_neg (by omega), if_neg (by omega)]
              · rw [atn, if_neg (by omega), if_neg (by omega), if_neg (by omega), if_neg (by omega), if_neg (by omega), if_neg (by omega)]
              · rw [atn, if_pos ⟨rfl, rfl⟩]
              · show (nwV m2 σ.2.1.length y).1 75 σ.2.1.length = y
                rw [atn, if_neg (by omega), if_neg (by omega), if_neg (by omega), if_neg (by omega), if_neg (by omega), if_pos ⟨rfl, rfl⟩]
              · show vuR (nwV m2 σ.2.1.length y) σ.2.1.length
                unfold vuR
                rw [atn, atn, atn, atn]
                simp
            refine ⟨xv, xi, hT.x g2, xv, xv, xv, rfl, (((jk3.si (by omega)).si (by omega)).si (by omega)).si (by omega), hT.kw ((((jk3.si (by omega)).si (by omega)).si (by omega)).si (by omega)), ?_, nd _ _ ?_ (fun a i h1 h2 => ?_)⟩
            · -- described
              generalize hm3 : nwV m2 σ.2.1.length y = m3 at rd atn
              generalize hτ : decl (σ.1 ++ [(nI k, n, x, c, σ.2.1.length)], σ.2) x = τ at rd
              have lτ : τ.2.1.length = σ.2.1.length + 1 := by rw [← hτ]; simp [decl]
              have bτ : τ.1 = σ.1 ++ [(nI k, n, x, c, σ.2.1.length)] := by rw [← hτ]; rfl
              have kτ : τ.2.2 = σ.2.2 := by rw [← hτ]; rfl
              have r4 : RB J (setVr τ σ.2.1.length (3, n + 1, 0, 0)) (y_si (y_si (y_si (y_si m3 76 σ.2.1.length 0) 77 σ.2.1.length (vF J.2.2.1 (n + 1))) 80 σ.2.1.length 0) 81 σ.2.1.length 3) := by
                refine RB.ds rd (by omega) (fun a i h1 h2 h3 => ?_) (fun i hi => ?_) ?_
                · rw [y_si_at, if_neg (by omega), y_si_at, if_neg (by omega), y_si_at, if_neg (by omega), y_si_at, if_neg (by omega)]
                · rw [y_si_at, if_neg (by omega), y_si_at, if_neg (by omega), y_si_at, if_neg (by omega), y_si_at, if_neg (by omega)]
                · unfold vdR tyR atR
                  rw [kτ]
                  simp only [y_si_at, atn]
                  refine ⟨by simp, by simp, by simp, ⟨g2, Or.inl g3.1, by rw [kτ, g3.1, g3.2]; rfl, fun z => absurd (g3.1.symm.trans z) (by decide)⟩, Or.inl ⟨g3.2, by simp, by simp [g5], by simp⟩, Or.inl ⟨by simp, fun z => absurd z ?_⟩⟩
                  have cur : curB τ = (nI k, n, x, c, σ.2.1.length) := by
                    unfold curB
                    rw [bτ, List.length_append, List.length_singleton, Nat.add_sub_cancel, getD_app, if_neg (by omega), if_pos rfl]
                  unfold inB
                  rw [cur]
                  rintro ⟨-, q⟩
                  have q : nI k = 3 := q
                  rw [k1] at q
                  exact absurd q (by decide)
              have eb : beg σ n (σ.2.2.1 n) x = setVr τ σ.2.1.length (3, n + 1, 0, 0) := by
                unfold beg
                rw [hkn, if_pos (e1.mpr k1)]
                have c1 : c = 1 := by rw [hc, if_pos k1]
                have e0 : beg0 σ n (nI k) x = (σ.1 ++ [(nI k, n, x, (0 : Int32), σ.2.1.length)], σ.2) := by
                  unfold beg0
                  rw [k1, if_neg (by decide)]
                rw [e0, ← hτ, c1]
                unfold setC setVr decl
                dsimp only
                rw [getD_app, if_neg (by omega), if_pos rfl]
                congr 1
                rw [List.set_append_right _ _ (Nat.le_refl _), Nat.sub_self]
                rfl
              rw [eb]
              exact r4
            · unfold beg
              rw [hkn, if_pos (e1.mpr k1)]
              rfl
            · rw [y_si_at, if_neg (by omega), y_si_at, if_neg (by omega), y_si_at, if_neg (by omega), y_si_at, if_neg (by omega), atn, if_neg (by omega), if_neg (by omega), if_neg (by omega), if_neg (by omega), if_neg (by omega), if_neg (by omega)]
        refine w322_95 xs (d + 5) _ _ _ m _ ⟨by rw [hs1]; split <;> simp, ?_⟩
        rw [n1, xc, ei, v1, k62m]
        refine ⟨xb, xb, xb1, xi, fun w => ⟨xi, fun w2 => ?_, fun w2 => ?_⟩, fun w => ?_⟩
        · exact fin 0 (by rw [if_neg (fun z => w (e1.mpr z)), if_neg (fun z => w2 (e3.mpr z))])
        · exact fin 960 (by rw [if_neg (fun z => w (e1.mpr z)), if_pos (e3.mp w2)])
        · exact fin 1 (by rw [if_pos (e1.mp w)])
      refine ⟨fun w => go 0 ?_, fun w => go 1 ?_⟩
      · rw [if_neg (fun z => w (e3.mpr z))]
      · rw [if_pos (e3.mp w)]
