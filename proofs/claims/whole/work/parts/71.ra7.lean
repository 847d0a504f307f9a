/-! RULES: calls of the class, all of one -/
def op2 (F : List ND) (n s : Nat) : Nat := if xar_5.getD s 0 ≤ 1 then n else kd2 F n
def op3 (F : List ND) (n s : Nat) : Nat := if xar_5.getD s 0 ≤ 2 then n else op2 F n s + szF F (op2 F n s)
/-- what a standard function of constants gives -/
def clD (F : List ND) (σ : RS) (n s : Nat) : Int32 := if nI s = 3 then two_ 23 (two_ 24 (σ.2.2.2.1 (n + 1)) (σ.2.2.2.1 (op2 F n s))) (σ.2.2.2.1 (op3 F n s)) else if nI s = 4 then (if σ.2.2.2.1 (n + 1) = 0 then σ.2.2.2.1 (op2 F n s) else σ.2.2.2.1 (op3 F n s)) else if nI s = 8 then σ.2.2.2.1 (n + 1) else if xar_5.getD s 0 = 1 then one_ (nFun (nI s) (σ.2.2.2.2 (n + 1))) (σ.2.2.2.1 (n + 1)) else two_ (nFun (nI s) (σ.2.2.2.2 (n + 1))) (σ.2.2.2.1 (n + 1)) (σ.2.2.2.1 (op2 F n s))
theorem c173 (xs : List Int32) (d : Nat) {F : List ND} {σ : RS} {m : yM} (h : CR F σ m) {n s : Nat} (hs : s < 10) (hn : n + 1 < F.length) (h2 : op2 F n s < F.length) (h3 : op3 F n s < F.length) : yC (xg xs) (d + 3) 173 [.ref 34, .int (nI n), .int (nI s)] m (fun r m' => r = some (.int (clD F σ n s)) ∧ m' = m) := by
  have hf := h.f
  have t1 := h.t hn
  have t2 := h.t h2
  have t3 := h.t h3
  have e1 : (nI n + 1).toNatClampNeg = n + 1 := by rw [nI_1]; exact nI_clamp (by omega)
  have x1 : x_in (nI n + 1) 16401 = true := by rw [nI_1]; exact x_in_nI (by omega) (by decide)
  have es : (nI s).toNatClampNeg = s := nI_clamp (by omega)
  have xs5 : x_in (nI s) xar_5.length = true := x_in_nI (show s < xar_5.length from hs) (by decide)
  have e2 : (nI (op2 F n s)).toNatClampNeg = op2 F n s := nI_clamp (by omega)
  have x2 : x_in (nI (op2 F n s)) 16401 = true := x_in_nI (by omega) (by decide)
  have e3 : (nI (op3 F n s)).toNatClampNeg = op3 F n s := nI_clamp (by omega)
  have x3 : x_in (nI (op3 F n s)) 16401 = true := x_in_nI (by omega) (by decide)
  have s61 : yP (xg xs) (d + 3) 173 61 [(0, .ref 34), (1, .int (nI n)), (2, .int (nI s)), (3, .int (σ.2.2.2.1 (n + 1))), (4, .int (nI (op2 F n s)))] [.int (nI (op3 F n s))] m (fun r m' => r = some (.int (clD F σ n s)) ∧ m' = m) := by
    refine w173_61 xs (d + 2) _ _ _ _ _ m _ ⟨x2, x3, x1, ?_⟩
    rw [e1, e2, e3, es, t1.2.2.2.1, t2.2.2.1, t3.2.2.1]
    unfold clD
    refine y_ci (c174 xs (d + 1) m _ _) (by omega) ⟨fun u => ?_, fun u => ?_, fun u => ?_, fun n3 n4 n8 => ⟨xs5, fun v => ?_, fun v => ?_⟩⟩
    · rw [if_pos u]
      refine y_ci (c175 xs d m _ _ _) (by omega) ?_
      exact y_ci (c175 xs d m _ _ _) (by omega) ⟨rfl, rfl⟩
    · rw [if_neg (by rw [u]; decide), if_pos u]
      exact ⟨fun v => ⟨by rw [if_pos v], rfl⟩, fun v => ⟨by rw [if_neg v], rfl⟩⟩
    · rw [if_neg (by rw [u]; decide), if_neg (by rw [u]; decide), if_pos u]
      exact ⟨rfl, rfl⟩
    · rw [if_neg n3, if_neg n4, if_neg n8, if_neg v]
      exact y_ci (c175 xs d m _ _ _) (by omega) ⟨rfl, rfl⟩
    · rw [if_neg n3, if_neg n4, if_neg n8, if_pos v]
      exact y_ci (c178 xs (d + 2) m _ _) (by omega) ⟨rfl, rfl⟩
  have s36 : yP (xg xs) (d + 3) 173 36 [(0, .ref 34), (1, .int (nI n)), (2, .int (nI s)), (3, .int (σ.2.2.2.1 (n + 1)))] [.int (nI (op2 F n s))] m (fun r m' => r = some (.int (clD F σ n s)) ∧ m' = m) := by
    refine w173_36 xs (d + 2) _ _ _ _ m _ ⟨xs5, ?_⟩
    rw [es, e2, t2.2.2.2.2.1]
    refine ⟨fun u => ?_, fun u => ⟨x2, ?_⟩⟩
    · have eo : op3 F n s = n := by unfold op3; rw [if_pos u]
      rw [eo] at s61
      exact s61
    · have eo : op3 F n s = op2 F n s + szF F (op2 F n s) := by unfold op3; rw [if_neg u]
      rw [← eo]
      exact s61
  refine w173_0 xs (d + 2) _ _ m _ ⟨x1, xs5, ?_⟩
  rw [e1, es, t1.2.2.1, t1.2.2.2.2.1]
  refine ⟨fun u => ?_, fun u => ⟨x1, ?_⟩⟩
  · have eo : op2 F n s = n := by unfold op2; rw [if_pos u]
    rw [eo] at s36
    exact s36
  · have eo : op2 F n s = n + 1 + szF F (n + 1) := by unfold op2; rw [if_neg u]
    rw [← eo]
    exact s36
theorem nI_sub {a b : Nat} (h : b ≤ a) : nI a - nI b = nI (a - b) := by
  obtain ⟨k, rfl⟩ : ∃ k, a = k + b := ⟨a - b, by omega⟩
  rw [Nat.add_sub_cancel, ← nI_add, Int32.add_sub_cancel]
theorem fFn_c (σ : RS) (hB : σ.1.length ≤ 511) {j : Nat} (hj : j < 4172) : fBlk σ 1 50 60 10 (nI j) = -1 ∨ (∃ s, s < 10 ∧ fBlk σ 1 50 60 10 (nI j) = nI s) ∨ (∃ b, b + 1 < σ.1.length ∧ fBlk σ 1 50 60 10 (nI j) = nI (b + 10) ∧ (σ.1.getD b dBK).1 = 1) := by
  unfold fBlk
  split
  · rename_i z
    have a1 : 50 ≤ j := by
      rcases Nat.lt_or_ge j 50 with y | y
      · exact absurd (nI_lt (b := 50) y (by omega)) z.1
      · exact y
    have a2 : j < 60 := by
      rcases Nat.lt_or_ge j 60 with y | y
      · exact y
      · exact absurd (nI_le (a := 60) y (by omega)) z.2
    exact Or.inr (Or.inl ⟨j - 50, by omega, nI_sub (b := 50) a1⟩)
  · split
    · exact Or.inl rfl
    · rename_i n1
      split
      · exact Or.inl rfl
      · rename_i n2
        rcases bix_c σ.1 (nI j) σ.1.length with y | ⟨b, b1, b2, b3⟩
        · exact absurd y n1
        · rw [b2] at n2 ⊢
          rw [nI_clamp (by omega)]
          split
          · rename_i k1
            refine Or.inr (Or.inr ⟨b, ?_, ?_, k1⟩)
            · rcases Nat.lt_or_ge (b + 1) σ.1.length with y | y
              · exact y
              · exact absurd (nI_le (a := σ.1.length - 1) (b := b) (by omega) (by omega)) n2
            · show nI 10 + nI b = _
              rw [nI_add, Nat.add_comm]
          · exact Or.inl rfl
def wantC (σ : RS) (f : Int32) : Int32 := if 10 ≤ f then nIn σ (f - 10).toNatClampNeg else xar_5.getD f.toNatClampNeg 0
def typC (F : List ND) (σ : RS) (n : Nat) (f : Int32) : Int32 := if 10 ≤ f then owT F σ (f - 10).toNatClampNeg (endV σ (f - 10).toNatClampNeg - (σ.1.getD (f - 10).toNatClampNeg dBK).2.2.2.2) (σ.1.getD (f - 10).toNatClampNeg dBK).2.2.2.2 (n + 1) else stT F σ n f (anT σ (kids F n) 1) (wdT σ (kids F n) 0)
def lkCall (F : List ND) (σ : RS) (n : Nat) : RS ⊕ Int32 :=
  if fBlk σ 1 50 60 10 (σ.2.2.2.1 n) = -1 then .inr 24
  else if ¬ nI (kids F n).length = wantC σ (fBlk σ 1 50 60 10 (σ.2.2.2.1 n)) then .inr 25
  else if typC F σ n (fBlk σ 1 50 60 10 (σ.2.2.2.1 n)) = -1 then .inr 26
  else if ¬ 10 ≤ fBlk σ 1 50 60 10 (σ.2.2.2.1 n) ∧ (kids F n).all (cnB (setT (setV σ n (fBlk σ 1 50 60 10 (σ.2.2.2.1 n))) n (typC F σ n (fBlk σ 1 50 60 10 (σ.2.2.2.1 n))))) = true then .inl (bcN (setT (setV σ n (fBlk σ 1 50 60 10 (σ.2.2.2.1 n))) n (typC F σ n (fBlk σ 1 50 60 10 (σ.2.2.2.1 n)))) n (clD F (setT (setV σ n (fBlk σ 1 50 60 10 (σ.2.2.2.1 n))) n (typC F σ n (fBlk σ 1 50 60 10 (σ.2.2.2.1 n)))) n (fBlk σ 1 50 60 10 (σ.2.2.2.1 n)).toNatClampNeg))
  else .inl (setT (setV σ n (fBlk σ 1 50 60 10 (σ.2.2.2.1 n))) n (typC F σ n (fBlk σ 1 50 60 10 (σ.2.2.2.1 n))))
/-- a call has as many operands as it reads -/
def calOk (F : List ND) (σ : RS) (n : Nat) : Prop := (∀ s, s < 10 → fBlk σ 1 50 60 10 (σ.2.2.2.1 n) = nI s → nI (kids F n).length = xar_5.getD s 0 → n + 1 < F.length ∧ op2 F n s < F.length ∧ op3 F n s < F.length ∧ (nI s = 4 → kd3 F n < F.length)) ∧ (∀ b, b + 1 < σ.1.length → fBlk σ 1 50 60 10 (σ.2.2.2.1 n) = nI (b + 10) → nI (kids F n).length = nIn σ b → (σ.1.getD b dBK).2.2.2.2 < σ.2.1.length ∧ owOk F σ (endV σ b - (σ.1.getD b dBK).2.2.2.2) (σ.1.getD b dBK).2.2.2.2 (n + 1))
theorem c165 (xs : List Int32) (d : Nat) {F : List ND} {σ : RS} {A : List Nat} {m : yM} (h : CR F σ m) (hA : PH F A m) (h0 : 0 < σ.1.length) (hD : allD σ) {n j : Nat} (hn : n < F.length) (hv : σ.2.2.2.1 n = nI j) (hj : j < 4172) (hc : calOk F σ n) : yC (xg xs) (d + 4) 165 [.ref 34, .int (nI n)] m (LQ F A m (lkCall F σ n)) := by
  have hf := h.f
  have n2 := h.nB.2
  have tn := h.t hn
  have e : (nI n).toNatClampNeg = n := nI_clamp (by omega)
  have x1 : x_in (nI n) 16401 = true := x_in_nI (by omega) (by decide)
  have fc := fFn_c σ n2 hj
  unfold lkCall
  unfold calOk at hc
  rw [hv] at hc ⊢
  generalize hfe : fBlk σ 1 50 60 10 (nI j) = f at hc fc ⊢
  refine w165_0 xs (d + 3) _ m _ ⟨x1, ?_⟩
  rw [e, tn.2.2.1, hv]
  refine y_ci (c166 xs (d + 1) h h0 hj) (by omega) ?_
  rw [hfe]
  refine ⟨fun u => ?_, fun u => ?_⟩
  · rw [if_neg u]
    generalize hR : (if ¬ nI (kids F n).length = wantC σ f then (.inr 25 : RS ⊕ Int32) else if typC F σ n f = -1 then .inr 26 else if ¬ 10 ≤ f ∧ (kids F n).all (cnB (setT (setV σ n f) n (typC F σ n f))) = true then .inl (bcN (setT (setV σ n f) n (typC F σ n f)) n (clD F (setT (setV σ n f) n (typC F σ n f)) n f.toNatClampNeg)) else .inl (setT (setV σ n f) n (typC F σ n f))) = R
    -- behind the count of operands
    have fin : ((10 : Int32) ≤ f → yP (xg xs) (d + 4) 165 75 [(0, .ref 34), (1, .int (nI n)), (2, .int f), (3, .int (nI (kids F n).length))] [.int (0 : Int32)] m (LQ F A m R)) ∧ (¬ (10 : Int32) ≤ f → yP (xg xs) (d + 4) 165 75 [(0, .ref 34), (1, .int (nI n)), (2, .int f), (3, .int (nI (kids F n).length))] [.int (1 : Int32)] m (LQ F A m R)) := by
      refine ⟨fun v => ?_, fun v => ?_⟩
      · rcases fc with y | ⟨s, s1, s2⟩ | ⟨b, b1, b2, b3⟩
        · exact absurd y u
        · rw [s2] at v
          exact absurd ((nI_leI (a := 10) (by omega) (by omega)).mp v) (by omega)
        · have eb : f - 10 = nI b := by rw [b2]; exact (nI_sub (a := b + 10) (b := 10) (by omega)).trans (by rw [Nat.add_sub_cancel])
          have ew : wantC σ f = nIn σ b := by unfold wantC; rw [if_pos v, eb, nI_clamp (by omega)]
          have et : typC F σ n f = owT F σ b (endV σ b - (σ.1.getD b dBK).2.2.2.2) (σ.1.getD b dBK).2.2.2.2 (n + 1) := by unfold typC; rw [if_pos v, eb, nI_clamp (by omega)]
          refine w165_75 xs (d + 3) _ _ _ _ m _ ⟨fun _ => ?_, fun z => absurd rfl z⟩
          rw [eb]
          refine y_ci (c118 xs (d + 1) h hD (show b < σ.1.length by omega)) (by omega) ?_
          refine w165_106 xs (d + 3) _ _ _ _ _ _ m _ ⟨fun w => ⟨fun _ => ?_, fun z => absurd rfl z⟩, fun w => ?_⟩
          · obtain ⟨o1, o2⟩ := hc.2 b b1 b2 w
            refine y_ci (c170 xs d h hD (by omega) o1 o2) (by omega) ?_
            rw [← et]
            refine w165_133 xs (d + 3) _ _ _ _ m _ ⟨fun z => ⟨x1, x1, fun _ => ?_, fun y => absurd rfl y⟩, fun z => ?_⟩
            · rw [e, ← hR, if_neg (fun y => y (by rw [ew]; exact w)), if_neg z, if_neg (fun y => y.1 v)]
              exact ⟨((KR.re m).si (by omega)).si (by omega), rfl, (h.sV n f).sT n _, (hA.si (by omega)).si (by omega)⟩
            · rw [← hR, if_neg (fun y => y (by rw [ew]; exact w)), if_pos z]
              exact LQ.no m (by decide)
          · rw [← hR, if_pos (by rw [ew]; exact w)]
            exact LQ.no m (by decide)
      · rcases fc with y | ⟨s, s1, s2⟩ | ⟨b, b1, b2, b3⟩
        · exact absurd y u
        · have es : f.toNatClampNeg = s := by rw [s2]; exact nI_clamp (by omega)
          have xf : x_in f xar_5.length = true := by rw [s2]; exact x_in_nI (show s < xar_5.length from s1) (by decide)
          have ew : wantC σ f = xar_5.getD s 0 := by unfold wantC; rw [if_neg v, es]
          have et : typC F σ n f = stT F σ n f (anT σ (kids F n) 1) (wdT σ (kids F n) 0) := by unfold typC; rw [if_neg v]
          refine w165_75 xs (d + 3) _ _ _ _ m _ ⟨fun z => absurd z (by decide), fun _ => ⟨xf, ?_⟩⟩
          rw [es]
          refine w165_106 xs (d + 3) _ _ _ _ _ _ m _ ⟨fun w => ⟨fun z => absurd z (by decide), fun _ => ?_⟩, fun w => ?_⟩
          · obtain ⟨o1, o2, o3, o4⟩ := hc.1 s s1 s2 w
            refine y_ci (c167 xs d h o1 f (fun z => o4 (by rw [← s2]; exact z))) (by omega) ?_
            rw [← et]
            have h1 := (h.sV n f).sT n (typC F σ n f)
            have k1 : KR m (y_si (y_si m 5 n f) 6 n (typC F σ n f)) := ((KR.re m).si (by omega)).si (by omega)
            have p1 := (hA.si (k := 5) (i := n) (v := f) (by omega)).si (k := 6) (i := n) (v := typC F σ n f) (by omega)
            refine w165_133 xs (d + 3) _ _ _ _ m _ ⟨fun z => ⟨x1, x1, fun y => absurd y (by decide), fun _ => ?_⟩, fun z => ?_⟩
            · rw [e, ← hR, if_neg (fun y => y (by rw [ew]; exact w)), if_neg z]
              generalize y_si (y_si m 5 n f) 6 n (typC F σ n f) = m1 at h1 k1 p1 ⊢
              refine y_ci (c171 xs (d + 1) h1 hn) (by omega) ⟨fun q => ?_, fun q => ?_⟩
              · rw [if_neg (fun y => if0 q y.2)]
                exact ⟨k1, rfl, h1, p1⟩
              · rw [if_pos ⟨v, if1 q⟩, es]
                rw [s2] at h1 ⊢
                refine y_ci (c173 xs d h1 s1 o1 o2 o3) (by omega) ?_
                refine y_cv (c179 xs (d + 2) h1 hn _) (by omega) ?_
                exact ⟨(k1.si (by omega)).si (by omega), rfl, (h1.sK n 30).sV n _, (p1.si (by omega)).si (by omega)⟩
            · rw [← hR, if_neg (fun y => y (by rw [ew]; exact w)), if_pos z]
              exact LQ.no m (by decide)
          · rw [← hR, if_pos (by rw [ew]; exact w)]
            exact LQ.no m (by decide)
        · exact absurd (show (10 : Int32) ≤ f by rw [b2]; exact nI_le (a := 10) (by omega) (by omega)) v
    have lp : ∀ (k i c : Nat), n + szF F n ≤ i + k → i ≤ F.length → c + (kds F (n + szF F n) k i).length = (kids F n).length → yP (xg xs) (d + 4) 165 32 [(0, .ref 34), (1, .int (nI n)), (2, .int f), (3, .int (nI c)), (4, .int (nI i))] [] m (LQ F A m R) := by
      intro k
      induction k with
      | zero =>
        intro i c hi hi2 hc2
        refine w165_32 xs (d + 3) _ _ _ _ m _ ⟨x1, ?_⟩
        rw [e, tn.2.2.2.2.1]
        have ec : c = (kids F n).length := by simpa [kds] using hc2
        rw [ec]
        exact ⟨fun _ => fin, fun z => absurd (nI_le (by omega) (by omega)) z⟩
      | succ k ih =>
        intro i c hi hi2 hc2
        refine w165_32 xs (d + 3) _ _ _ _ m _ ⟨x1, ?_⟩
        rw [e, tn.2.2.2.2.1]
        refine ⟨fun z => ?_, fun z => ?_⟩
        · have := (nI_leI (by omega) (by omega)).mp z
          rw [kds_n F _ _ i this] at hc2
          have ec : c = (kids F n).length := by simpa using hc2
          rw [ec]
          exact fin
        · have lt : i < n + szF F n := by
            rcases Nat.lt_or_ge i (n + szF F n) with y | y
            · exact y
            · exact absurd (nI_le y (by omega)) z
          have il : i < F.length := by omega
          have ti := h.t il
          refine ⟨x_in_nI (by omega) (by decide), ?_⟩
          rw [nI_clamp (by omega), ti.2.2.2.2.1, nI_1]
          rw [kds_c F _ k i lt, List.length_cons] at hc2
          exact ih (i + szF F i) (c + 1) (by omega) ti.2.2.2.2.2.1 (by omega)
    rw [nI_1]
    exact lp (szF F n) (n + 1) 0 (by omega) (by omega) (by unfold kids; omega)
  · rw [if_pos u]
    exact LQ.no m (by decide)
