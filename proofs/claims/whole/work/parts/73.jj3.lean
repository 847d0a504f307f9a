/-! THE REFERENCE'S RULES: the loop over declared variables -/
theorem c333m (xs : List Int32) (d : Nat) {J : JV} (hN : JN J) {σ : RS} {m0 m : yM} (hT : JT J m) (h : RB J σ m0) (g : ∀ a i, 69 < a → a < 75 → m.1 a i = m0.1 a i) (g23 : m.1 58 23 = m0.1 58 23) (h0 : 0 < σ.1.length) (k : Int32) {x y : Int32} (hx : NM J x y) : yC (xg xs) (d + 1) 333 [.ref 58, .int k, .int y] m (fun r m' => r = some (.int (bfB σ k x (σ.1.length - 1) 0)) ∧ m' = m) := by
  obtain ⟨n1, n2⟩ := h.nB
  rw [← g23] at n1
  have lp : ∀ (q b : Nat), b + q = σ.1.length - 1 → yP (xg xs) (d + 1) 333 2 [(0, .ref 58), (1, .int k), (2, .int y), (3, .int (nI b))] [] m (fun r m' => r = some (.int (bfB σ k x q b)) ∧ m' = m) := by
    intro q
    induction q with
    | zero =>
      intro b hb
      refine w333_2 xs d _ _ _ m _ ⟨fun _ => ⟨rfl, rfl⟩, fun u => absurd ?_ u⟩
      rw [n1, nI_m h0]
      exact nI_le (by omega) (by omega)
    | succ q ih =>
      intro b hb
      have bb := h.b (show b < σ.1.length by omega)
      rw [← g 70 b (by omega) (by omega), ← g 71 b (by omega) (by omega)] at bb
      have nx := hT.2.1 _ bb.1
      have es : bfB σ k x (q + 1) b = if (σ.1.getD b dBK).2.2.1 = x ∧ (σ.1.getD b dBK).1 = k then nI b else bfB σ k x q (b + 1) := rfl
      have eq := NM.eq hN bb.2.2.1 hx
      have nx' : yP (xg xs) (d + 1) 333 39 [(0, .ref 58), (1, .int k), (2, .int y), (3, .int (nI b))] [] m (fun r m' => r = some (.int (bfB σ k x q (b + 1))) ∧ m' = m) := by
        refine w333_39 xs d _ _ _ m _ ?_
        rw [nI_1]
        exact ih (b + 1) (by omega)
      refine w333_2 xs d _ _ _ m _ ⟨fun u => ?_, fun _ => ⟨x_in_nI (by omega) (by decide), ?_⟩⟩
      · rw [n1, nI_m h0] at u
        exact absurd ((nI_leI (by omega) (by omega)).mp u) (by omega)
      · rw [nI_clamp (by omega), es]
        refine ⟨fun u => ?_, fun u => ⟨x_in_nI (by omega) (by decide), ?_, ?_⟩⟩
        · rw [if_neg (fun z => u (eq.mp z.1))]; exact nx'
        · rw [bb.2.1]; exact x_in_nI nx.1 (by decide)
        · rw [bb.2.1, hT.c bb.1, nx.2.1, ← bb.2.2.2.2.2.2]
          refine ⟨fun w => ?_, fun w => ⟨?_, rfl⟩⟩
          · rw [if_neg (fun z => w z.2)]; exact nx'
          · rw [if_pos ⟨eq.mpr u, w⟩]
  exact w333_0 xs d _ _ m _ (lp _ 0 (by omega))
theorem c332L (xs : List Int32) (d : Nat) {J : JV} (hO : JO J) {D : Nat → Prop} {t : Nat} {l1 l4 l6 at_ sec ini : Int32} {Q : Option Value → yM → Prop} : ∀ (q v : Nat) (σ : RS) (m : yM), v + q = σ.2.1.length → RJ J D σ m → 0 < σ.1.length → tpQ J σ t → dsN σ → (∃ z, szT σ t = nI z ∧ z ≤ 40000) → l6Q J σ l6 ini → (∀ u, v ≤ u → u < σ.2.1.length → m.1 81 u = sec ∧ m.1 79 u = 1) → (∃ c, (curB σ).2.2.2.1 = nI c ∧ c + q * 40000 ≤ 200000000 ∧ (inB σ 3 → 960 ≤ c)) → atQ σ l4 at_ → (∀ m', JK m m' → RJ J D (dsL at_ t sec ini q v σ) m' → yP (xg xs) (d + 5) 332 371 [(0, .ref 58), (1, .int l1), (4, .int l4), (5, .int (nI (J.2.2.2 t))), (6, .int l6), (7, .int (l7T J t)), (8, .int (l8T J t)), (9, .int (nI σ.2.1.length))] [] m' Q) → yP (xg xs) (d + 5) 332 371 [(0, .ref 58), (1, .int l1), (4, .int l4), (5, .int (nI (J.2.2.2 t))), (6, .int l6), (7, .int (l7T J t)), (8, .int (l8T J t)), (9, .int (nI v))] [] m Q := by
  intro q
  induction q with
  | zero =>
    intro v σ m hv h _ _ _ _ _ _ _ _ K
    have : v = σ.2.1.length := by omega
    subst this
    exact K m (JK.re m) h
  | succ q ih =>
    intro v σ m hv h h0 hT' hd hz h6 h81 hc hat K
    have hT := h.1
    have hR := h.2.1
    obtain ⟨b1, b2⟩ := hR.nB
    obtain ⟨v1, v2⟩ := hR.nV
    have vl : v < σ.2.1.length := by omega
    obtain ⟨z, ez, zb⟩ := hz
    obtain ⟨c, ec, cb, c9⟩ := hc
    obtain ⟨t1, t2, t3, t8, t9, t10⟩ := hT'
    have hT'0 : tpQ J σ t := ⟨t1, t2, t3, t8, t9, t10⟩
    have xv : x_in (nI v) 4700 = true := x_in_nI (by omega) (by decide)
    have cv : (nI v).toNatClampNeg = v := nI_clamp (by omega)
    have xt := hT.x t1
    have ct := hT.c t1
    have eB : m.1 58 23 - 1 = nI (σ.1.length - 1) := by rw [b1, nI_m h0]
    have xB : x_in (nI (σ.1.length - 1)) 400 = true := x_in_nI (by omega) (by decide)
    have cB : (nI (σ.1.length - 1)).toNatClampNeg = σ.1.length - 1 := nI_clamp (by omega)
    have m72 : m.1 72 (σ.1.length - 1) = nI c := by rw [(hR.b (show σ.1.length - 1 < σ.1.length by omega)).2.2.2.1]; exact ec
    obtain ⟨s81, s79⟩ := h81 v (Nat.le_refl _) vl
    have m1eq : l4 = -1 ↔ at_ = -1 := by
      rcases hat with ⟨a, b⟩ | ⟨w, k, a1, a2, a3, a4, a5, a6⟩
      · exact ⟨fun _ => b, fun _ => a⟩
      · have w1 : plC w k < 2 ^ 31 := by unfold plC; split <;> omega
        exact ⟨fun y => absurd (a4 ▸ y) (nI_m1 (by omega)), fun y => absurd (a5 ▸ y) (nI_m1 w1)⟩
    generalize hcell : (if at_ = -1 then nI c else at_) = cell
    -- one more is done
    have step : ∀ m', JK m m' → (∀ a i, 69 < a → a < 89 → ¬ (75 < a ∧ a < 84 ∧ i = v) → ¬ (a = 72 ∧ i = σ.1.length - 1) → m'.1 a i = m.1 a i) → (∀ i, m'.1 58 i = m.1 58 i) → m'.1 81 v = m.1 81 v → m'.1 83 v = ini → m'.1 80 v = cell → m'.1 82 v = l4 → tyR σ m' v t → m'.1 72 (σ.1.length - 1) = nI c + (if l4 = -1 then nI z else 0) → yP (xg xs) (d + 5) 332 371 [(0, .ref 58), (1, .int l1), (4, .int l4), (5, .int (nI (J.2.2.2 t))), (6, .int l6), (7, .int (l7T J t)), (8, .int (l8T J t)), (9, .int (nI (v + 1)))] [] m' Q := by
      intro m' jk g g58 e81 e83 e80 e82 ety e72
      have atr : atR σ m' v cell := by
        rcases hat with ⟨a, b⟩ | ⟨w, k, a1, a2, a3, a4, a5, a6⟩
        · refine Or.inl ⟨e82.trans a, fun ib _ => ?_⟩
          rw [← hcell, if_pos b]
          have c9 := c9 ib
          rintro ⟨p1, p2⟩
          have := (nI_ltI (b := 960) (by omega) (by omega)).mp p2
          omega
        · refine Or.inr ⟨w, k, a1, a2, a3, e82.trans a4, ?_, a6⟩
          have w1 : plC w k < 2 ^ 31 := by unfold plC; split <;> omega
          rw [← hcell, if_neg (fun y => absurd (a5 ▸ y) (nI_m1 w1)), a5]
      have tn : tnK J σ t := ⟨t1, t3, t2, fun e => (t9 e).2.1.2.1⟩
      have vd : vdR J σ m' v (sec, t, ini, cell) := ⟨e81.trans s81, e83, e80, tn, ety, atr⟩
      have hJ' : ∀ σ' : RS, σ'.2.2 = σ.2.2 → RB J σ' m' → RJ J D σ' m' := fun σ' e2 rb => ⟨hT.k jk, rb, RJ.nd h.2.2 e2 (fun a i z1 z2 => g a i (by omega) z2 (by omega) (by omega))⟩
      have l6n : ∀ σ' : RS, σ'.2.2 = σ.2.2 → l6Q J σ' l6 ini := fun σ' e2 => by unfold l6Q CN; rw [e2]; exact h6
      have es : dsL at_ t sec ini (q + 1) v σ = dsL at_ t sec ini q (v + 1) (if at_ = -1 then setC (setVr σ v (sec, t, ini, (curB σ).2.2.2.1)) (σ.1.length - 1) ((curB σ).2.2.2.1 + szT (setVr σ v (sec, t, ini, (curB σ).2.2.2.1)) t) else setVr σ v (sec, t, ini, at_)) := rfl
      by_cases a1 : at_ = -1
      · rw [if_pos a1] at hcell
        subst hcell
        rw [if_pos (m1eq.mpr a1), nI_add] at e72
        have rb := RB.st hR h0 vl (y := (sec, t, ini, nI c)) (c := nI (c + z)) (fun a i y1 y2 y3 y4 => g a i y1 (by omega) (by omega) y4) (fun i hi => g58 i) e72 vd
        have es2 : dsL at_ t sec ini (q + 1) v σ = dsL at_ t sec ini q (v + 1) (setC (setVr σ v (sec, t, ini, nI c)) (σ.1.length - 1) (nI (c + z))) := by
          rw [es, if_pos a1, ec]
          have : szT (setVr σ v (sec, t, ini, nI c)) t = nI z := ez
          rw [this, nI_add]
        have bl : σ.1.length - 1 < (setVr σ v (sec, t, ini, nI c)).1.length := by show _ < σ.1.length; omega
        have bx : BX σ (setC (setVr σ v (sec, t, ini, nI c)) (σ.1.length - 1) (nI (c + z))) := by
          have := BX.sc (setVr σ v (sec, t, ini, nI c)) bl (nI (c + z))
          exact ⟨this.1, this.2⟩
        have lv : (setC (setVr σ v (sec, t, ini, nI c)) (σ.1.length - 1) (nI (c + z))).2.1.length = σ.2.1.length := List.length_set
        have cc : (curB (setC (setVr σ v (sec, t, ini, nI c)) (σ.1.length - 1) (nI (c + z)))).2.2.2.1 = nI (c + z) := by
          unfold curB
          rw [bx.1, setC_at _ bl, if_pos rfl]
        refine ih (v + 1) (setC (setVr σ v (sec, t, ini, nI c)) (σ.1.length - 1) (nI (c + z))) m' (by rw [lv]; omega) (hJ' _ rfl rb) (by rw [bx.1]; exact h0) (hT'0.x bx rfl) (bx.n hd) ⟨z, ?_, zb⟩ (l6n _ rfl) (fun u y1 y2 => ?_) ⟨c + z, cc, by omega, fun ib => ?_⟩ ?_ (fun m2 jk2 r2 => ?_)
        · rw [← ez]
          unfold szT
          by_cases k8 : σ.2.2.1 t = 8
          · exact (if_pos k8).trans (if_pos k8).symm
          · refine (if_neg k8).trans (Eq.trans ?_ (if_neg k8).symm)
            by_cases k9 : σ.2.2.1 t = 9
            · exact (if_pos k9).trans (if_pos k9).symm
            · refine (if_neg k9).trans (Eq.trans ?_ (if_neg k9).symm)
              by_cases v9 : 9 ≤ σ.2.2.2.1 t
              · refine (if_pos v9).trans (Eq.trans ?_ (if_pos v9).symm)
                have kt : kK J.2.2.1 t = 10 := by
                  rcases t3 with y | y | y
                  · rw [y] at t2; exact absurd t2 k8
                  · rw [y] at t2; exact absurd t2 k9
                  · exact y
                obtain ⟨y1, y2, y3⟩ := t10 kt
                have hx := (hT.2.1 t t1).2.2.2.2.1 y1
                rcases fBlk_r hO.1 hd b2 h0 hx (a := 41) (c := 9) (by omega) (by omega) 2 with ⟨q1, -, -⟩ | ⟨s, s1, s2, -⟩ | ⟨b, b1', b2', -, -, -⟩
                · exact absurd (y2.trans q1) y3
                · have e : σ.2.2.2.1 t = nI s := y2.trans s2
                  rw [e] at v9
                  have := (nI_leI (a := 9) (by omega) (by omega)).mp v9
                  omega
                · have e : σ.2.2.2.1 t = nI (9 + b) := y2.trans b2'
                  show ((setC (setVr σ v (sec, t, ini, nI c)) (σ.1.length - 1) (nI (c + z))).1.getD (σ.2.2.2.1 t - 9).toNatClampNeg dBK).2.2.2.1 = _
                  rw [e, show nI (9 + b) - 9 = nI (9 + b - 9) from nI_sub (b := 9) (by omega), nI_clamp (by omega), setC_at _ bl, if_neg (by omega)]
                  rfl
              · exact (if_neg v9).trans (if_neg v9).symm
        · rw [lv] at y2
          obtain ⟨o1, o2⟩ := h81 u (by omega) y2
          exact ⟨(g 81 u (by omega) (by omega) (by omega) (by omega)).trans o1, (g 79 u (by omega) (by omega) (by omega) (by omega)).trans o2⟩
        · have : inB σ 3 := ⟨h0, by
            have := ib.2
            unfold curB at this ⊢
            rw [bx.1, (bx.2 _).1] at this
            exact this⟩
          have := c9 this
          omega
        · rcases hat with ⟨a, b⟩ | ⟨w, k, x1, x2, x3, x4, x5, x6⟩
          · exact Or.inl ⟨a, b⟩
          · have w1 : plC w k < 2 ^ 31 := by unfold plC; split <;> omega
            exact absurd (x5 ▸ a1) (nI_m1 w1)
        · rw [lv]
          rw [← es2] at r2
          exact K m2 (jk.tr jk2) r2
      · rw [if_neg a1] at hcell
        subst hcell
        have l41 : ¬ l4 = -1 := fun y => a1 (m1eq.mp y)
        rw [if_neg l41] at e72
        have e72 : m'.1 72 (σ.1.length - 1) = m.1 72 (σ.1.length - 1) := by
          rw [e72, m72]
          exact nI_add c 0
        have rb : RB J (setVr σ v (sec, t, ini, at_)) m' := RB.ds hR vl (fun a i y1 y2 y3 => by
          by_cases e : a = 72 ∧ i = σ.1.length - 1
          · rw [e.1, e.2, e72]
          · exact g a i y1 (by omega) (by omega) e) (fun i hi => g58 i) vd
        have lv : (setVr σ v (sec, t, ini, at_)).2.1.length = σ.2.1.length := List.length_set
        have es2 : dsL at_ t sec ini (q + 1) v σ = dsL at_ t sec ini q (v + 1) (setVr σ v (sec, t, ini, at_)) := by rw [es, if_neg a1]
        have ez2 : szT (setVr σ v (sec, t, ini, at_)) t = nI z := ez
        have ec2 : (curB (setVr σ v (sec, t, ini, at_))).2.2.2.1 = nI c := ec
        have bx : BX σ (setVr σ v (sec, t, ini, at_)) := ⟨rfl, fun _ => ⟨rfl, rfl, rfl⟩⟩
        have ib2 : inB (setVr σ v (sec, t, ini, at_)) 3 → inB σ 3 := fun y => y
        have cb2 : c + q * 40000 ≤ 200000000 := Nat.le_trans (Nat.add_le_add_left (Nat.mul_le_mul_right 40000 (Nat.le_succ q)) c) cb
        have hc2 : ∃ c, (curB (setVr σ v (sec, t, ini, at_))).2.2.2.1 = nI c ∧ c + q * 40000 ≤ 200000000 ∧ (inB (setVr σ v (sec, t, ini, at_)) 3 → 960 ≤ c) := ⟨c, ec2, cb2, fun y => c9 (ib2 y)⟩
        have hat2 : atQ (setVr σ v (sec, t, ini, at_)) l4 at_ := hat
        have hj2 := hJ' (setVr σ v (sec, t, ini, at_)) rfl rb
        have tp2 : tpQ J (setVr σ v (sec, t, ini, at_)) t := hT'0.x bx rfl
        have vq : v + 1 + q = (setVr σ v (sec, t, ini, at_)).2.1.length := by rw [lv]; omega
        have l62 := l6n (setVr σ v (sec, t, ini, at_)) rfl
        refine ih (v + 1) (setVr σ v (sec, t, ini, at_)) m' vq hj2 h0 tp2 (bx.n hd) ⟨z, ez2, zb⟩ l62 (fun u y1 y2 => ?_) hc2 hat2 (fun m2 jk2 r2 => ?_)
        · rw [lv] at y2
          obtain ⟨o1, o2⟩ := h81 u (by omega) y2
          exact ⟨(g 81 u (by omega) (by omega) (by omega) (by omega)).trans o1, (g 79 u (by omega) (by omega) (by omega) (by omega)).trans o2⟩
        · rw [lv]
          rw [← es2] at r2
          exact K m2 (jk.tr jk2) r2
    -- behind the type
    have s588 : ∀ (m2 : yM) (l10 : Int32), l10 = nI z → JK m m2 → (∀ a i, 69 < a → a < 89 → ¬ (75 < a ∧ a < 84 ∧ i = v) → m2.1 a i = m.1 a i) → (∀ i, m2.1 58 i = m.1 58 i) → m2.1 81 v = m.1 81 v → m2.1 83 v = ini → m2.1 82 v = l4 → tyR σ m2 v t → yP (xg xs) (d + 5) 332 588 [(0, .ref 58), (1, .int l1), (4, .int l4), (5, .int (nI (J.2.2.2 t))), (6, .int l6), (7, .int (l7T J t)), (8, .int (l8T J t)), (9, .int (nI v)), (10, .int l10)] [] m2 Q := by
      intro m2 l10 hl jk g g58 e81 e83 e82 ety
      have eB2 : m2.1 58 23 - 1 = nI (σ.1.length - 1) := by rw [g58]; exact eB
      have m72' : m2.1 72 (σ.1.length - 1) = nI c := by rw [g 72 _ (by omega) (by omega) (by omega)]; exact m72
      have s619 : yP (xg xs) (d + 5) 332 619 [(0, .ref 58), (1, .int l1), (4, .int l4), (5, .int (nI (J.2.2.2 t))), (6, .int l6), (7, .int (l7T J t)), (8, .int (l8T J t)), (9, .int (nI v)), (10, .int l10)] [.int cell, .int (nI v), .ref 80] m2 Q := by
        have fin : ∀ s3 : Int32, s3 = (if l4 = -1 then nI z else 0) → yP (xg xs) (d + 5) 332 644 [(0, .ref 58), (1, .int l1), (4, .int l4), (5, .int (nI (J.2.2.2 t))), (6, .int l6), (7, .int (l7T J t)), (8, .int (l8T J t)), (9, .int (nI v))] [.int s3, .int (nI c), .int (nI (σ.1.length - 1)), .ref 72] (y_si m2 80 v cell) Q := by
          intro s3 h3
          refine w332_644 xs (d + 4) _ _ _ _ _ _ _ _ _ _ _ _ ⟨xB, ?_⟩
          rw [cB, nI_1]
          refine step _ ((jk.si (by omega)).si (by omega)) (fun a i y1 y2 y3 y4 => ?_) (fun i => ?_) ?_ ?_ ?_ ?_ ?_ ?_
          · rw [y_si_at, if_neg y4, y_si_at, if_neg (by omega)]; exact g a i y1 y2 y3
          · rw [y_si_at, if_neg (by omega), y_si_at, if_neg (by omega)]; exact g58 i
          · rw [y_si_at, if_neg (by omega), y_si_at, if_neg (by omega)]; exact e81
          · rw [y_si_at, if_neg (by omega), y_si_at, if_neg (by omega)]; exact e83
          · rw [y_si_at, if_neg (by omega), y_si_same]
          · rw [y_si_at, if_neg (by omega), y_si_at, if_neg (by omega)]; exact e82
          · unfold tyR
            have f : ∀ a, a = 76 ∨ a = 77 ∨ a = 78 ∨ a = 79 → (y_si (y_si m2 80 v cell) 72 (σ.1.length - 1) (nI c + s3)).1 a v = m2.1 a v := fun a ha => by rw [y_si_at, if_neg (by omega), y_si_at, if_neg (by omega)]
            rw [f 76 (by omega), f 77 (by omega), f 78 (by omega), f 79 (by omega)]
            exact ety
          · rw [y_si_same, h3]
        refine w332_619 xs (d + 4) _ _ _ _ _ _ _ _ _ _ m2 _ ⟨xv, ?_⟩
        rw [eB2, cB, m72', cv]
        refine ⟨xB, fun y => fin _ ?_, fun y => fin _ ?_⟩
        · rw [if_pos y, hl]
        · rw [if_neg y]
      refine w332_588 xs (d + 4) _ _ _ _ _ _ _ _ m2 _ ⟨fun y => ?_, fun y => ?_⟩
      · rw [eB2, cB, m72']
        rw [if_pos (m1eq.mp y)] at hcell
        rw [hcell]
        exact ⟨xB, s619⟩
      · rcases hat with ⟨a, b⟩ | ⟨w, k, x1, x2, x3, x4, x5, x6⟩
        · exact absurd a y
        · rw [if_neg (fun e => y (m1eq.mpr e))] at hcell
          have c5 := c335 xs (d + 3) m2 x1 x2
          rw [← x4, ← x5, hcell] at c5
          exact y_ci c5 (by omega) s619
    -- what it begins with
    have s371 : ∀ K' : yP (xg xs) (d + 5) 332 430 [(0, .ref 58), (1, .int l1), (4, .int l4), (5, .int (nI (J.2.2.2 t))), (6, .int l6), (7, .int (l7T J t)), (8, .int (l8T J t)), (9, .int (nI v))] [.int ini, .int (nI v), .ref 83] (y_si (y_si (y_si m 76 v (l7T J t)) 77 v (l8T J t)) 82 v l4) Q, yP (xg xs) (d + 5) 332 371 [(0, .ref 58), (1, .int l1), (4, .int l4), (5, .int (nI (J.2.2.2 t))), (6, .int l6), (7, .int (l7T J t)), (8, .int (l8T J t)), (9, .int (nI v))] [] m Q := by
      intro K'
      refine w332_371 xs (d + 4) _ _ _ _ _ _ _ m _ ⟨fun y => ?_, fun _ => ⟨xv, xv, xv, ?_⟩⟩
      · rw [v1] at y
        have := (nI_leI (by omega) (by omega)).mp y
        omega
      · rw [cv]
        rcases h6 with ⟨e1, e2⟩ | ⟨cc, e1, e2, e3⟩
        · rw [e2] at K'
          exact ⟨fun y => absurd e1 y, fun _ => K'⟩
        · have n1 : ¬ l6 = -1 := by rw [e1]; exact nI_m1 (by have := hT.i e2.1; omega)
          refine ⟨fun _ => ⟨by rw [e1]; exact hT.x e2.1, ?_⟩, fun y => absurd y n1⟩
          have e64 : m.1 64 l6.toNatClampNeg = ini := by rw [e1, hT.c e2.1, (e2.v hT).1, e3]
          rw [e64]
          exact K'
    refine s371 ?_
    generalize hm1 : y_si (y_si (y_si m 76 v (l7T J t)) 77 v (l8T J t)) 82 v l4 = m1
    have jk1 : JK m m1 := by rw [← hm1]; exact (((JK.re m).si (by omega)).si (by omega)).si (by omega)
    have g1 : ∀ a i, ¬ ((a = 76 ∨ a = 77 ∨ a = 82) ∧ i = v) → m1.1 a i = m.1 a i := fun a i y => by rw [← hm1, y_si_at, if_neg (by omega), y_si_at, if_neg (by omega), y_si_at, if_neg (by omega)]
    have a76 : m1.1 76 v = l7T J t := by rw [← hm1, y_si_at, if_neg (by omega), y_si_at, if_neg (by omega), y_si_same]
    have a77 : m1.1 77 v = l8T J t := by rw [← hm1, y_si_at, if_neg (by omega), y_si_same]
    have a82 : m1.1 82 v = l4 := by rw [← hm1, y_si_same]
    have hT1 := hT.k jk1
    rcases t3 with k | k | k
    · have e7 : l7T J t = 0 := by unfold l7T; rw [if_pos k]
      have e8 : l8T J t = vF J.2.2.1 t := by unfold l8T; rw [if_pos k]
      have k8 : σ.2.2.1 t = 8 := by rw [t2, k]; rfl
      have z1 : (1 : Int32) = nI z := by
        rw [← ez]
        unfold szT
        rw [if_pos k8]
      refine w332_430 xs (d + 4) _ _ _ _ _ _ _ _ _ m1 _ ⟨xv, fun _ => w332_502 xs (d + 4) _ _ _ _ _ _ _ _ _ _ ⟨fun _ => ?_, fun y => absurd (e7 ▸ y) (by decide)⟩, fun y => absurd (e7 ▸ y) (by decide)⟩
      rw [cv]
      refine s588 _ 1 z1 (jk1.si (by omega)) (fun a i y1 y2 y3 => ?_) (fun i => ?_) ?_ ?_ ?_ (Or.inl ⟨k8, ?_, ?_, ?_⟩)
      · rw [y_si_at, if_neg (by omega), g1 a i (by omega)]
      · rw [y_si_at, if_neg (by omega), g1 58 i (by omega)]
      · rw [y_si_at, if_neg (by omega), g1 81 v (by omega)]
      · rw [y_si_same]
      · rw [y_si_at, if_neg (by omega), a82]
      · rw [y_si_at, if_neg (by omega), a76, e7]
      · rw [y_si_at, if_neg (by omega), a77, e8, (t8 k).2]
      · rw [y_si_at, if_neg (by omega), g1 79 v (by omega), s79]
    · have e7 : l7T J t = 1 := by unfold l7T; rw [if_neg (by omega), if_pos k]
      have e8 : l8T J t = vF J.2.2.1 (t + 3) := by unfold l8T; rw [if_neg (by omega), if_pos k]
      have k9 : σ.2.2.1 t = 9 := by rw [t2, k]; rfl
      obtain ⟨kk, n1, n2, n3, n4, n5, n6⟩ := t9 k
      have z1 : σ.2.2.2.1 t = nI z := by
        rw [← ez]
        unfold szT
        rw [if_neg (by rw [k9]; decide), if_pos k9]
      have f66 : m1.1 66 (J.2.2.2 t) = nI (J.2.2.2 (t + 1)) := hT1.k0 t1 (by rw [kk]; rfl)
      have f68 : m1.1 68 (J.2.2.2 (t + 1)) = nI (J.2.2.2 (t + 2)) := by rw [(hT1.kc t1 (j := 0) (c := t + 1) (by rw [kk]; rfl)).2.2, kk]; rfl
      have y1 := hT.c n1.1
      have y2 := hT.c n2.1
      refine w332_430 xs (d + 4) _ _ _ _ _ _ _ _ _ m1 _ ⟨xv, fun y => absurd e7 y, fun _ => ⟨xt, ?_⟩⟩
      rw [ct, f66, y1, f68, y2, cv, (n1.v hT1).1, (n2.v hT1).1]
      refine ⟨hT.x n1.1, xv, xt, hT.x n1.1, hT.x n2.1, xv, xv, xv, ?_⟩
      rw [y_si_same, y_si_same, ← n6]
      refine w332_502 xs (d + 4) _ _ _ _ _ _ _ _ _ _ ⟨fun _ => ?_, fun y => absurd (e7 ▸ y) (by decide)⟩
      refine s588 _ _ z1 (((jk1.si (by omega)).si (by omega)).si (by omega)) (fun a i y1 y2 y3 => ?_) (fun i => ?_) ?_ ?_ ?_ (Or.inr (Or.inl ⟨k9, ?_, ?_, ?_, ?_⟩))
      · rw [y_si_at, if_neg (by omega), y_si_at, if_neg (by omega), y_si_at, if_neg (by omega), g1 a i (by omega)]
      · rw [y_si_at, if_neg (by omega), y_si_at, if_neg (by omega), y_si_at, if_neg (by omega), g1 58 i (by omega)]
      · rw [y_si_at, if_neg (by omega), y_si_at, if_neg (by omega), y_si_at, if_neg (by omega), g1 81 v (by omega)]
      · rw [y_si_at, if_neg (by omega), y_si_at, if_neg (by omega), y_si_same]
      · rw [y_si_at, if_neg (by omega), y_si_at, if_neg (by omega), y_si_at, if_neg (by omega), a82]
      · rw [y_si_at, if_neg (by omega), y_si_at, if_neg (by omega), y_si_at, if_neg (by omega), a76, e7]
      · rw [y_si_at, if_neg (by omega), y_si_at, if_neg (by omega), y_si_at, if_neg (by omega), a77, e8, n5]
      · rw [y_si_at, if_neg (by omega), y_si_same]
      · rw [y_si_same]
    · have e7 : l7T J t = 2 := by unfold l7T; rw [if_neg (by omega), if_neg (by omega)]
      have k10 : σ.2.2.1 t = 10 := by rw [t2, k]; rfl
      obtain ⟨n1, n2, n3⟩ := t10 k
      refine w332_430 xs (d + 4) _ _ _ _ _ _ _ _ _ m1 _ ⟨xv, fun _ => ?_, fun y => absurd (e7 ▸ y) (by decide)⟩
      rw [cv]
      generalize hm2 : y_si m1 83 v ini = m2
      have jk2 : JK m m2 := by rw [← hm2]; exact jk1.si (by omega)
      have g2 : ∀ a i, ¬ ((a = 76 ∨ a = 77 ∨ a = 82 ∨ a = 83) ∧ i = v) → m2.1 a i = m.1 a i := fun a i y => by rw [← hm2, y_si_at, if_neg (by omega), g1 a i (by omega)]
      have b83 : m2.1 83 v = ini := by rw [← hm2, y_si_same]
      have b76 : m2.1 76 v = 2 := by rw [← hm2, y_si_at, if_neg (by omega), a76, e7]
      have b82 : m2.1 82 v = l4 := by rw [← hm2, y_si_at, if_neg (by omega), a82]
      have hT2 := hT.k jk2
      have hx := (hT2.2.1 t t1).2.2.2.2.1 n1
      -- the end of it
      have s556 : ∀ (l11 code : Int32), btR (σ.2.2.2.1 t) code → ((l11 = -1 ∧ ∃ b, b + 1 < σ.1.length ∧ code = nI (b + 100) ∧ (σ.1.getD b dBK).2.2.2.1 = nI z) ∨ ∃ s, s < 9 ∧ l11 = nI s ∧ xar_2.getD s 0 = nI z) → yP (xg xs) (d + 5) 332 556 [(0, .ref 58), (1, .int l1), (4, .int l4), (5, .int (nI (J.2.2.2 t))), (6, .int l6), (7, .int (l7T J t)), (8, .int (l8T J t)), (9, .int (nI v)), (11, .int l11)] [.int code, .int (nI v), .ref 77] m2 Q := by
        intro l11 code hb hl
        have fin := s588 (y_si m2 77 v code) (nI z) rfl (jk2.si (by omega)) (fun a i y1 y2 y3 => by rw [y_si_at, if_neg (by omega), g2 a i (by omega)]) (fun i => by rw [y_si_at, if_neg (by omega), g2 58 i (by omega)]) (by rw [y_si_at, if_neg (by omega), g2 81 v (by omega)]) (by rw [y_si_at, if_neg (by omega), b83]) (by rw [y_si_at, if_neg (by omega), b82]) (Or.inr (Or.inr ⟨k10, by rw [y_si_at, if_neg (by omega), b76], by rw [y_si_at, if_neg (by omega), g2 79 v (by omega), s79], by rw [y_si_same]; exact hb⟩))
        refine w332_556 xs (d + 4) _ _ _ _ _ _ _ _ _ _ m2 _ ⟨xv, ?_⟩
        rw [cv]
        rcases hl with ⟨e1, b, e2, e3, e4⟩ | ⟨s, e1, e2, e3⟩
        · refine ⟨fun _ => ⟨xv, ?_⟩, fun y => absurd e1 y⟩
          have bb := hR.b (show b < σ.1.length by omega)
          rw [y_si_same, e3, show nI (b + 100) - 100 = nI b from nI_sub (b := 100) (show 100 ≤ b + 100 by omega), nI_clamp (by omega), g2 72 b (by omega), bb.2.2.2.1, e4]
          refine ⟨x_in_nI (by omega) (by decide), w332_586 xs (d + 4) _ _ _ _ _ _ _ _ _ _ ?_⟩
          rw [← e3]
          exact fin
        · refine ⟨fun y => absurd (e2 ▸ y) (nI_m1 (by omega)), fun _ => ?_⟩
          rw [e2]
          refine y_ci (c334 xs (d + 3) _ e1) (by omega) (w332_586 xs (d + 4) _ _ _ _ _ _ _ _ _ _ ?_)
          rw [e3]
          exact fin
      have zz : (if 9 ≤ σ.2.2.2.1 t then (σ.1.getD (σ.2.2.2.1 t - 9).toNatClampNeg dBK).2.2.2.1 else xar_2.getD (σ.2.2.2.1 t).toNatClampNeg 0) = nI z := by
        rw [← ez]
        unfold szT
        have n8 : ¬ σ.2.2.1 t = 8 := by rw [k10]; decide
        have n9 : ¬ σ.2.2.1 t = 9 := by rw [k10]; decide
        rw [if_neg n8, if_neg n9]
      refine w332_502 xs (d + 4) _ _ _ _ _ _ _ _ m2 _ ⟨fun y => absurd e7 y, fun _ => ⟨xt, ?_⟩⟩
      rw [ct]
      refine y_ci (c325b xs d hO hT2 hx) (by omega) ?_
      rcases fBlk_r hO.1 hd b2 h0 hx (a := 41) (c := 9) (by omega) (by omega) 2 with ⟨q1, -, -⟩ | ⟨s, s1, s2, s3⟩ | ⟨b, p1, p2, p3, p4, p5⟩
      · exact absurd (n2.trans q1) n3
      · have e : σ.2.2.2.1 t = nI s := n2.trans s2
        have s3 : stN (vF J.2.2.1 t) 41 50 = nI s := s3
        have n9 : ¬ 9 ≤ nI s := fun y => by
          have := (nI_leI (a := 9) (by omega) (by omega)).mp y
          omega
        rw [e, if_neg n9, nI_clamp (by omega)] at zz
        rw [s3]
        refine ⟨fun y => absurd y (nI_m1 (by omega)), fun _ => s556 _ _ ⟨s, e, by omega, by rw [if_pos s1]⟩ (Or.inr ⟨s, s1, rfl, zz⟩)⟩
      · have e : σ.2.2.2.1 t = nI (9 + b) := n2.trans p2
        have p3 : stN (vF J.2.2.1 t) 41 50 = -1 := p3
        have p9 : 9 ≤ nI (9 + b) := nI_le (a := 9) (by omega) (by omega)
        rw [e, if_pos p9, show nI (9 + b) - 9 = nI (9 + b - 9) from nI_sub (b := 9) (by omega), nI_clamp (by omega), show 9 + b - 9 = b by omega] at zz
        rw [p3]
        refine ⟨fun _ => ⟨xt, ?_⟩, fun y => absurd rfl y⟩
        have c3 := c333m xs (d + 3) hO.1 hT2 hR (fun a i y1 y2 => g2 a i (by omega)) (g2 58 23 (by omega)) h0 2 hx
        rw [p4] at c3
        refine y_ci c3 (by omega) ?_
        rw [show (100 : Int32) + nI b = nI (b + 100) by rw [show (100 : Int32) = nI 100 from rfl, nI_add, Nat.add_comm]]
        refine s556 _ _ ⟨9 + b, e, by omega, ?_⟩ (Or.inl ⟨rfl, b, p1, rfl, zz⟩)
        rw [if_neg (by omega), show 9 + b + 91 = b + 100 by omega]
