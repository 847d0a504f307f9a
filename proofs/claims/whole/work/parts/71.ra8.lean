/-! RULES: inputs and outputs of the class's instances -/
abbrev rowP (b nm w : Int32) (i : Nat) : Prop := xar_4.getD i 0 = b ∧ xar_4.getD (i + 1) 0 = w ∧ xar_4.getD (i + 2) 0 = nm
/-- a standard block's port -/
def spR (b nm w : Int32) : Nat → Nat → Int32
  | 0 => fun _ => -1
  | k + 1 => fun i => if rowP b nm w i then 4 * xar_4.getD (i + 3) 0 + xar_4.getD (i + 4) 0 else spR b nm w k (i + 5)
theorem c155 (xs : List Int32) (d : Nat) (m : yM) (b nm w : Int32) : yC (xg xs) (d + 1) 155 [.int b, .int nm, .int w] m (fun r m' => r = some (.int (spR b nm w 32 0)) ∧ m' = m) := by
  have l4 : xar_4.length = 160 := rfl
  have lp : ∀ (k i : Nat), i + 5 * k = 160 → yP (xg xs) (d + 1) 155 2 [(0, .int b), (1, .int nm), (2, .int w), (3, .int (nI i))] [] m (fun r m' => r = some (.int (spR b nm w k i)) ∧ m' = m) := by
    intro k
    induction k with
    | zero =>
      intro i hi
      refine w155_2 xs d _ _ _ _ m _ ⟨fun _ => ⟨rfl, rfl⟩, fun u => absurd ?_ u⟩
      rw [show i = 160 from by omega]
      decide
    | succ k ih =>
      intro i hi
      have a5 : nI i + 5 = nI (i + 5) := nI_add i 5
      have a1 : nI i + 1 = nI (i + 1) := nI_1 i
      have a2 : nI i + 2 = nI (i + 2) := nI_add i 2
      have a3 : nI i + 3 = nI (i + 3) := nI_add i 3
      have a4 : nI i + 4 = nI (i + 4) := nI_add i 4
      have e0 : (nI i).toNatClampNeg = i := nI_clamp (by omega)
      have e1 : (nI (i + 1)).toNatClampNeg = i + 1 := nI_clamp (by omega)
      have e2 : (nI (i + 2)).toNatClampNeg = i + 2 := nI_clamp (by omega)
      have e3 : (nI (i + 3)).toNatClampNeg = i + 3 := nI_clamp (by omega)
      have e4 : (nI (i + 4)).toNatClampNeg = i + 4 := nI_clamp (by omega)
      have es : spR b nm w (k + 1) i = if rowP b nm w i then 4 * xar_4.getD (i + 3) 0 + xar_4.getD (i + 4) 0 else spR b nm w k (i + 5) := rfl
      have go : ¬ rowP b nm w i → yP (xg xs) (d + 1) 155 61 [(0, .int b), (1, .int nm), (2, .int w), (3, .int (nI i))] [] m (fun r m' => r = some (.int (spR b nm w (k + 1) i)) ∧ m' = m) := by
        intro n
        rw [es, if_neg n]
        refine w155_61 xs d _ _ _ _ m _ ?_
        rw [a5]
        exact ih (i + 5) (by omega)
      refine w155_2 xs d _ _ _ _ m _ ⟨fun u => ?_, fun _ => ⟨?_, ?_⟩⟩
      · rw [a5] at u
        exact absurd ((nI_ltI (a := 160) (by omega) (by omega)).mp u) (by omega)
      · rw [l4]; exact x_in_nI (by omega) (by decide)
      · rw [a1, a2, a3, a4, e0, e1, e2, e3, e4, l4]
        refine ⟨fun u => go (fun y => u y.1), fun u => ⟨x_in_nI (by omega) (by decide), fun v => go (fun y => v y.2.1), fun v => ⟨x_in_nI (by omega) (by decide), fun z => go (fun y => z y.2.2), fun z => ⟨x_in_nI (by omega) (by decide), x_in_nI (by omega) (by decide), ?_, rfl⟩⟩⟩⟩
        rw [es, if_pos ⟨u, v, z⟩]
  exact w155_0 xs d _ _ _ m _ (lp 32 0 (by omega))
/-- a port of a FUNCTION_BLOCK of the text -/
def ptR (σ : RS) (nm w : Int32) : Nat → Nat → Int32
  | 0 => fun _ => -1
  | k + 1 => fun v => if (σ.2.1.getD v dVK).1 = nm ∧ (vD σ v).1 = w then 4 * (vD σ v).2.2.2 + tyV σ v else ptR σ nm w k (v + 1)
def prt (σ : RS) (x nm w : Int32) : Int32 := if 9 ≤ x then ptR σ nm w (endV σ (x - 9).toNatClampNeg - (σ.1.getD (x - 9).toNatClampNeg dBK).2.2.2.2) (σ.1.getD (x - 9).toNatClampNeg dBK).2.2.2.2 else spR x nm w 32 0
theorem c154 (xs : List Int32) (d : Nat) {F : List ND} {σ : RS} {m : yM} (h : CR F σ m) (hD : allD σ) {x : Int32} (hx : blT σ x) (nm w : Int32) : yC (xg xs) (d + 3) 154 [.ref 18, .int x, .int nm, .int w] m (fun r m' => r = some (.int (prt σ x nm w)) ∧ m' = m) := by
  have n1 := h.nB.2
  have n2 := h.nV.2
  unfold prt
  obtain ⟨k, rfl, hk⟩ := hx
  refine w154_0 xs (d + 2) _ _ _ m _ ⟨fun u => ?_, fun u => ?_⟩
  · have k9 := (nI_leI (a := 9) (by omega) (by omega)).mp u
    have eb : nI k - 9 = nI (k - 9) := nI_sub (b := 9) k9
    rw [if_pos u, eb, nI_clamp (by omega)]
    have hb : k - 9 < σ.1.length := by omega
    generalize k - 9 = b at hb ⊢
    have el := endV_le h b
    have lp : ∀ (k v : Nat), endV σ b - v = k → v ≤ σ.2.1.length → yP (xg xs) (d + 3) 154 27 [(0, .ref 18), (2, .int nm), (3, .int w), (4, .int (nI b)), (5, .int (nI v))] [] m (fun r m' => r = some (.int (ptR σ nm w k v)) ∧ m' = m) := by
      intro k
      induction k with
      | zero =>
        intro v hk hv
        exact w154_27 xs (d + 2) _ _ _ _ m _ (y_ci (c120 xs (d + 1) h hb) (by omega) ⟨fun _ => ⟨rfl, rfl⟩, fun u => absurd (nI_le (by omega) (by omega)) u⟩)
      | succ k ih =>
        intro v hk hv
        have vo := hD v (by omega)
        have ev : (nI v).toNatClampNeg = v := nI_clamp (by omega)
        have xv : x_in (nI v) 4097 = true := x_in_nI (by omega) (by decide)
        obtain ⟨a1, a2, a3, a4, a5, a6, a7⟩ := h.v vo
        have es : ptR σ nm w (k + 1) v = if (σ.2.1.getD v dVK).1 = nm ∧ (vD σ v).1 = w then 4 * (vD σ v).2.2.2 + tyV σ v else ptR σ nm w k (v + 1) := rfl
        have go : ¬ ((σ.2.1.getD v dVK).1 = nm ∧ (vD σ v).1 = w) → yP (xg xs) (d + 3) 154 77 [(0, .ref 18), (2, .int nm), (3, .int w), (4, .int (nI b)), (5, .int (nI v))] [] m (fun r m' => r = some (.int (ptR σ nm w (k + 1) v)) ∧ m' = m) := by
          intro n
          rw [es, if_neg n]
          refine w154_77 xs (d + 2) _ _ _ _ m _ ?_
          rw [nI_1]
          exact ih (v + 1) (by omega) (by omega)
        refine w154_27 xs (d + 2) _ _ _ _ m _ (y_ci (c120 xs (d + 1) h hb) (by omega) ⟨fun u => absurd ((nI_leI (by omega) (by omega)).mp u) (by omega), fun _ => ⟨xv, ?_⟩⟩)
        rw [ev, a2, a3, a6]
        refine ⟨fun u => go (fun y => u y.1), fun u => ⟨xv, fun z => go (fun y => z y.2), fun z => ⟨xv, y_ci (c136 xs d h vo) (by omega) ⟨?_, rfl⟩⟩⟩⟩
        rw [es, if_pos ⟨u, z⟩]
    refine y_ci (c119 xs (d + 1) h hb) (by omega) ?_
    exact lp _ _ rfl (h.b hb).2.2.2.2.1
  · rw [if_neg u]
    exact y_ci (c155 xs (d + 1) m _ _ _) (by omega) ⟨rfl, rfl⟩
/-- the types of all instances are told -/
def btOk (σ : RS) : Prop := ∀ v, vOk σ v → frm σ v = 10 → blT σ (σ.2.2.2.1 (vD σ v).2.1)
def lkOut (σ : RS) (n : Nat) : RS ⊕ Int32 :=
  if fVar σ (σ.2.2.2.1 n) = -1 then .inr 20
  else if frm σ (fVar σ (σ.2.2.2.1 n)).toNatClampNeg = 10 then (if prt σ (σ.2.2.2.1 (vD σ (fVar σ (σ.2.2.2.1 n)).toNatClampNeg).2.1) (σ.2.2.2.1 (n + 1)) 2 = -1 then .inr 23 else .inl (setT (setV σ n ((vD σ (fVar σ (σ.2.2.2.1 n)).toNatClampNeg).2.2.2 + (prt σ (σ.2.2.2.1 (vD σ (fVar σ (σ.2.2.2.1 n)).toNatClampNeg).2.1) (σ.2.2.2.1 (n + 1)) 2 >>> ((2 : Int32) &&& 31)))) n (prt σ (σ.2.2.2.1 (vD σ (fVar σ (σ.2.2.2.1 n)).toNatClampNeg).2.1) (σ.2.2.2.1 (n + 1)) 2 &&& 3)))
  else .inr 21
theorem c164 (xs : List Int32) (d : Nat) {F : List ND} {σ : RS} {A : List Nat} {m : yM} (h : CR F σ m) (hA : PH F A m) (h0 : 0 < σ.1.length) (hD : allD σ) (hb : btOk σ) {n j : Nat} (hn : n + 1 < F.length) (hv : σ.2.2.2.1 n = nI j) (hj : j < 4172) : yC (xg xs) (d + 4) 164 [.ref 34, .int (nI n)] m (LQ F A m (lkOut σ n)) := by
  have hf := h.f
  have t0 := h.t (show n < F.length by omega)
  have t1 := h.t hn
  have e : (nI n).toNatClampNeg = n := nI_clamp (by omega)
  have e1 : (nI n + 1).toNatClampNeg = n + 1 := by rw [nI_1]; exact nI_clamp (by omega)
  have x1 : x_in (nI n) 16401 = true := x_in_nI (by omega) (by decide)
  have x2 : x_in (nI n + 1) 16401 = true := by rw [nI_1]; exact x_in_nI (by omega) (by decide)
  unfold lkOut
  refine w164_0 xs (d + 3) _ m _ ⟨x1, ?_⟩
  rw [e, t0.2.2.1, hv]
  refine y_ci (c134 xs (d + 2) h h0 hj) (by omega) ⟨fun u => ?_, fun u => ?_⟩
  · rw [if_neg u]
    rcases fVar_c σ (nI j) with y | ⟨v, v1, v2, v3⟩
    · exact absurd y u
    · have n2 := h.nV.2
      have vo := hD v v1
      have ev : (nI v).toNatClampNeg = v := nI_clamp (by omega)
      have xv : x_in (nI v) 4097 = true := x_in_nI (by omega) (by decide)
      rw [v2, ev]
      refine y_ci (c135 xs (d + 2) h vo) (by omega) ⟨fun w => ?_, fun w => ?_⟩
      · rw [if_pos w]
        refine y_ci (c153 xs (d + 2) h vo) (by omega) ⟨x2, ?_⟩
        rw [e1, t1.2.2.1]
        refine y_ci (c154 xs d h hD (hb v vo w) _ _) (by omega) ⟨fun z => ⟨xv, x1, x1, ?_⟩, fun z => ?_⟩
        · rw [if_neg z, (h.v vo).2.2.2.2.2.1]
          exact ⟨((KR.re m).si (by omega)).si (by omega), rfl, (h.sV n _).sT n _, (hA.si (by omega)).si (by omega)⟩
        · rw [if_pos z]
          exact LQ.no m (by decide)
      · rw [if_neg w]
        exact LQ.no m (by decide)
  · rw [if_pos u]
    exact LQ.no m (by decide)
/-- an input that was told before -/
abbrev agB (σ : RS) (c : Int32) (i : Nat) : Bool := decide (σ.2.2.2.1 i = c)
def lkPrmP (F : List ND) (σ : RS) (p n : Nat) (v : Nat) (port : Int32) : RS ⊕ Int32 :=
  if port = -1 then .inr 32
  else if (kds F n (n - (p + 1)) (p + 1)).any (agB σ ((vD σ v).2.2.2 + (port >>> ((2 : Int32) &&& 31)))) = true then .inr 33
  else if ftP (σ.2.2.2.2 (n + 1)) (port &&& 3) then .inl (setV σ n ((vD σ v).2.2.2 + (port >>> ((2 : Int32) &&& 31)))) else .inr 31
def lkPrm (F : List ND) (σ : RS) (A : List Nat) (n : Nat) : RS ⊕ Int32 :=
  if fVar σ (σ.2.2.2.1 (fPar A)) = -1 then .inl σ
  else if frm σ (fVar σ (σ.2.2.2.1 (fPar A))).toNatClampNeg = 10 then lkPrmP F σ (fPar A) n (fVar σ (σ.2.2.2.1 (fPar A))).toNatClampNeg (prt σ (σ.2.2.2.1 (vD σ (fVar σ (σ.2.2.2.1 (fPar A))).toNatClampNeg).2.1) (σ.2.2.2.1 n) 1)
  else .inl σ
theorem c152 (xs : List Int32) (d : Nat) {F : List ND} {σ : RS} {A : List Nat} {m : yM} (h : CR F σ m) (hA : PH F A m) (h0 : 0 < σ.1.length) (hD : allD σ) (hb : btOk σ) {n j : Nat} (hn : n + 1 < F.length) (hp : fPar A < n) (hv : σ.2.2.2.1 (fPar A) = nI j) (hj : j < 4172) : yC (xg xs) (d + 4) 152 [.ref 31, .int (nI n)] m (LQ F A m (lkPrm F σ A n)) := by
  have hf := h.f
  have t0 := h.t (show n < F.length by omega)
  have t1 := h.t hn
  have tp := h.t (show fPar A < F.length by omega)
  have e : (nI n).toNatClampNeg = n := nI_clamp (by omega)
  have e1 : (nI n + 1).toNatClampNeg = n + 1 := by rw [nI_1]; exact nI_clamp (by omega)
  have ep : (nI (fPar A)).toNatClampNeg = fPar A := nI_clamp (by omega)
  have x1 : x_in (nI n) 16401 = true := x_in_nI (by omega) (by decide)
  have x2 : x_in (nI n + 1) 16401 = true := by rw [nI_1]; exact x_in_nI (by omega) (by decide)
  unfold lkPrm
  refine w152_0 xs (d + 3) _ m _ (y_ci (c124 xs (d + 2) hA) (by omega) ⟨x_in_nI (by omega) (by decide), ?_⟩)
  rw [ep, tp.2.2.1, hv]
  refine y_ci (c134 xs (d + 2) h h0 hj) (by omega) ⟨fun u => ?_, fun u => ?_⟩
  · rw [if_pos u]
    exact LQ.ok h hA
  · rw [if_neg u]
    rcases fVar_c σ (nI j) with y | ⟨v, v1, v2, v3⟩
    · exact absurd y u
    · have n2 := h.nV.2
      have vo := hD v v1
      have ev : (nI v).toNatClampNeg = v := nI_clamp (by omega)
      have xv : x_in (nI v) 4097 = true := x_in_nI (by omega) (by decide)
      rw [v2, ev]
      refine y_ci (c135 xs (d + 2) h vo) (by omega) ⟨fun w => ?_, fun w => ?_⟩
      · rw [if_pos w]
        refine y_ci (c153 xs (d + 2) h vo) (by omega) ⟨x1, ?_⟩
        rw [e, t0.2.2.1]
        refine y_ci (c154 xs d h hD (hb v vo w) _ _) (by omega) ?_
        generalize prt σ (σ.2.2.2.1 (vD σ v).2.1) (σ.2.2.2.1 n) 1 = port
        unfold lkPrmP
        refine ⟨fun z => ⟨xv, y_ci (c124 xs (d + 2) hA) (by omega) ?_⟩, fun z => ?_⟩
        · rw [if_neg z, (h.v vo).2.2.2.2.2.1]
          generalize hcl : (vD σ v).2.2.2 + (port >>> ((2 : Int32) &&& 31)) = c
          have lp : ∀ (k i : Nat), n ≤ i + k → i ≤ F.length → yP (xg xs) (d + 4) 152 97 [(0, .ref 31), (1, .int (nI n)), (3, .int port), (4, .int c), (5, .int (nI i))] [] m (LQ F A m (if (kds F n k i).any (agB σ c) = true then .inr 33 else if ftP (σ.2.2.2.2 (n + 1)) (port &&& 3) then .inl (setV σ n c) else .inr 31)) := by
            have last : ∀ i, n ≤ i → i ≤ F.length → yP (xg xs) (d + 4) 152 97 [(0, .ref 31), (1, .int (nI n)), (3, .int port), (4, .int c), (5, .int (nI i))] [] m (LQ F A m (if ftP (σ.2.2.2.2 (n + 1)) (port &&& 3) then .inl (setV σ n c) else .inr 31)) := by
              intro i hi hi2
              refine w152_97 xs (d + 3) _ _ _ _ m _ ⟨fun _ => ⟨x1, x2, ?_⟩, fun q => absurd (nI_le hi (by omega)) q⟩
              rw [e, e1, t1.2.2.2.1]
              refine y_ci (c150 xs (d + 2) _ _ _) (by omega) ⟨fun q => ?_, fun q => ?_⟩
              · rw [if_neg (if0 q)]
                exact ⟨(KR.re m).si (by omega), rfl, by decide⟩
              · rw [if_pos (if1 q)]
                exact ⟨(KR.re m).si (by omega), rfl, h.sV n c, hA.si (by omega)⟩
            intro k
            induction k with
            | zero =>
              intro i hi hi2
              exact last i (by omega) hi2
            | succ k ih =>
              intro i hi hi2
              rcases Nat.lt_or_ge i n with lt | ge
              · have il : i < F.length := by omega
                have ti := h.t il
                have xi : x_in (nI i) 16401 = true := x_in_nI (by omega) (by decide)
                have ei : (nI i).toNatClampNeg = i := nI_clamp (by omega)
                refine w152_97 xs (d + 3) _ _ _ _ m _ ⟨fun q => absurd ((nI_leI (by omega) (by omega)).mp q) (by omega), fun _ => ⟨xi, ?_⟩⟩
                rw [ei, ti.2.2.1, ti.2.2.2.2.1, kds_c F _ k i lt, List.any_cons]
                refine ⟨fun q => ⟨xi, ?_⟩, fun q => ?_⟩
                · rw [show agB σ c i = false from decide_eq_false q, Bool.false_or]
                  exact ih (i + szF F i) (by omega) ti.2.2.2.2.2.1
                · rw [show agB σ c i = true from decide_eq_true q, Bool.true_or, if_pos rfl]
                  exact LQ.no m (by decide)
              · rw [kds_n F _ _ i ge]
                exact last i ge hi2
          rw [nI_1]
          exact lp (n - (fPar A + 1)) (fPar A + 1) (by omega) (by omega)
        · rw [if_pos z]
          exact LQ.no m (by decide)
      · rw [if_neg w]
        exact LQ.ok h hA
