/-! THE REFERENCE'S RULES: sections, types, the text -/
theorem c340_14 (xs : List Int32) (d : Nat) {J : JV} {D : Nat → Prop} {m : yM} {n : Nat} {R : RS ⊕ Int32} (h : yC (xg xs) d 345 [.ref 58, .int (nI (J.2.2.2 n))] m (JQp J D m n R)) : yC (xg xs) (d + 1) 340 [.ref 58, .int (nI (J.2.2.2 n)), .int 14] m (JQp J D m n R) := by
  refine w340_0 xs d _ _ m _ ⟨fun w => absurd w (by decide), fun w => absurd w (by decide), fun _ => y_jqp h (Nat.le_refl _), fun w => absurd w (by decide), fun w => absurd w (by decide), fun w => absurd w (by decide), fun w => absurd w (by decide), fun w => absurd w (by decide), fun _ _ w => absurd rfl w⟩
/-- node n tells no variable its type -/
def tnN (J : JV) (σ : RS) (n : Nat) : Prop := ∀ (v : Nat) (nm : Int32) (y : Int32 × Nat × Int32 × Int32), σ.2.1[v]? = some (nm, some y) → ¬ y.2.1 = n ∧ (kK J.2.2.1 y.2.1 = 9 → ¬ y.2.1 + 1 = n)
theorem RB.nt {J : JV} {σ σ' : RS} {m : yM} {n : Nat} (h : RB J σ m) (e1 : σ'.1 = σ.1) (e2 : σ'.2.1 = σ.2.1) (ek : ∀ i, i ≠ n → σ'.2.2.1 i = σ.2.2.1 i ∧ σ'.2.2.2.1 i = σ.2.2.2.1 i ∧ σ'.2.2.2.2 i = σ.2.2.2.2 i) (hne : tnN J σ n) : RB J σ' m := by
  obtain ⟨a, b, c⟩ := h
  have cur : curB σ' = curB σ := by unfold curB; rw [e1]
  have ib : inB σ' 3 ↔ inB σ 3 := by unfold inB; rw [cur, e1]
  refine ⟨?_, ?_, fun v x hv' => ?_⟩
  · obtain ⟨a1, a2, a3, a4, a5, a6⟩ := a
    refine ⟨a1, by rw [e1]; exact a2, by rw [e2]; exact a3, by rw [e1]; exact a4, by rw [e2]; exact a5, ?_⟩
    rw [a6]
    by_cases w : inB σ 3
    · rw [if_pos w, if_pos (ib.mpr w)]
    · rw [if_neg w, if_neg (fun y => w (ib.mp y))]
  · rw [e1, e2]; exact b
  · rw [e2] at hv'
    obtain ⟨c1, c2, c3⟩ := c v x hv'
    refine ⟨c1, c2, fun y e => ?_⟩
    obtain ⟨w1, w2, w3, w4, w5, w6⟩ := c3 y e
    obtain ⟨t1, t2, t3, t4⟩ := w4
    obtain ⟨n1, n2⟩ := hne v x.1 y (by rw [hv']; cases x; dsimp only at e; rw [e])
    obtain ⟨k1, k2, k3⟩ := ek _ n1
    refine ⟨w1, w2, w3, ⟨t1, t2, by rw [k1]; exact t3, t4⟩, ?_, ?_⟩
    · unfold tyR
      rw [k1, k2, k3]
      rcases w5 with q | q | q
      · exact Or.inl q
      · refine Or.inr (Or.inl ⟨q.1, q.2.1, q.2.2.1, ?_, q.2.2.2.2⟩)
        have k9 : kK J.2.2.1 y.2.1 = 9 := by
          rcases t2 with z | z | z
          · rw [z] at t3; exact absurd (q.1.symm.trans t3) (by decide)
          · exact z
          · rw [z] at t3; exact absurd (q.1.symm.trans t3) (by decide)
        rw [(ek _ (n2 k9)).2.1]
        exact q.2.2.2.1
      · exact Or.inr (Or.inr q)
    · unfold atR
      rw [cur]
      rcases w6 with ⟨q1, q2⟩ | ⟨w, k, q1, q2, q3, q4, q5, q6⟩
      · exact Or.inl ⟨q1, fun z => q2 (ib.mp z)⟩
      · exact Or.inr ⟨w, k, q1, q2, q3, q4, q5, ib.mpr q6⟩
theorem RJ.nt {J : JV} {D : Nat → Prop} {σ σ' : RS} {m : yM} {n : Nat} (h : RJ J D σ m) (e1 : σ'.1 = σ.1) (e2 : σ'.2.1 = σ.2.1) (ek : ∀ i, i ≠ n → σ'.2.2.1 i = σ.2.2.1 i ∧ σ'.2.2.2.1 i = σ.2.2.2.1 i ∧ σ'.2.2.2.2 i = σ.2.2.2.2 i) (hne : tnN J σ n) (hnD : ¬ D n) : RJ J D σ' m := ⟨h.1, h.2.1.nt e1 e2 ek hne, fun i hi => by
  obtain ⟨k1, k2, k3⟩ := ek i (fun e => hnD (e ▸ hi))
  exact ⟨(h.2.2 i hi).1, (h.2.2 i hi).2.fr k1 k2 k3 (fun _ _ _ => rfl)⟩⟩
theorem c327_4 (xs : List Int32) (d : Nat) {J : JV} {D : Nat → Prop} {σ : RS} {m : yM} (h : RJ J D σ m) (h0 : 0 < σ.1.length) {n : Nat} (hn : n < J.2.2.1.length) (hvt : vtF J.2.2.1 n = 0) (hv : σ.2.2.2.1 n = vF J.2.2.1 n) : yC (xg xs) (d + 2) 327 [.ref 58, .int (nI (J.2.2.2 n)), .int 4] m (JQ J D m n (lkSect σ n)) := by
  have hT := h.1
  have hR := h.2.1
  have e64 : m.1 64 (J.2.2.2 n) = σ.2.2.2.1 n := by rw [(hT.2.1 n hn).2.2.2.1 hvt, hv]
  have xi := hT.x hn
  have ei := hT.c hn
  have inb : ∀ k, (curB σ).1 = k ↔ inB σ k := fun k => ⟨fun z => ⟨h0, z⟩, fun z => z.2⟩
  unfold lkSect ifF
  have s239 : ((inB σ 3 ∧ ¬ σ.2.2.2.1 n = 0) ∨ (inB σ 1 ∧ σ.2.2.2.1 n = 2)) → yP (xg xs) (d + 2) 327 239 [(1, .int (nI (J.2.2.2 n)))] [.int (13 : Int32), .ref 58] m (JQ J D m n (if (inB σ 3 ∧ ¬ σ.2.2.2.1 n = 0) ∨ (inB σ 1 ∧ σ.2.2.2.1 n = 2) then .inr 13 else .inl σ)) := by
    intro p
    rw [if_pos p]
    exact w327_239 xs (d + 1) _ _ m _ (w327_244 xs (d + 1) _ _ _ m _ (rl1 (by omega) hT hn hR.f0 ⟨rfl, (JK.re m).fl J 13 n, FE.mk J m (by decide) n⟩))
  have s243 : ¬ ((inB σ 3 ∧ ¬ σ.2.2.2.1 n = 0) ∨ (inB σ 1 ∧ σ.2.2.2.1 n = 2)) → yP (xg xs) (d + 2) 327 243 [(1, .int (nI (J.2.2.2 n)))] [.int (13 : Int32), .ref 58] m (JQ J D m n (if (inB σ 3 ∧ ¬ σ.2.2.2.1 n = 0) ∨ (inB σ 1 ∧ σ.2.2.2.1 n = 2) then .inr 13 else .inl σ)) := by
    intro p
    rw [if_neg p]
    exact w327_243 xs (d + 1) _ _ m _ (w327_244 xs (d + 1) _ _ _ m _ (rl0 ⟨rfl, JK.re m, h⟩))
  have s221 : ¬ (inB σ 3 ∧ ¬ σ.2.2.2.1 n = 0) → yP (xg xs) (d + 2) 327 221 [(0, .ref 58), (1, .int (nI (J.2.2.2 n)))] [.int (13 : Int32), .ref 58] m (JQ J D m n (if (inB σ 3 ∧ ¬ σ.2.2.2.1 n = 0) ∨ (inB σ 1 ∧ σ.2.2.2.1 n = 2) then .inr 13 else .inl σ)) := by
    intro p
    refine w327_221 xs (d + 1) _ _ m _ (y_ci (c331 xs d hT hR h0) (by omega) ⟨fun z => s243 (fun y => y.elim p (fun y => z y.1.2)), fun z => ⟨xi, ?_⟩⟩)
    rw [ei, e64]
    exact ⟨fun w => s243 (fun y => y.elim p (fun y => w y.2)), fun w => s239 (Or.inr ⟨(inb 1).mp z, w⟩)⟩
  refine w327_0 xs (d + 1) _ _ m _ ⟨fun w => absurd w (by decide), fun w => absurd w (by decide), fun w => absurd w (by decide), fun w => absurd w (by decide), fun _ => y_ci (c331 xs d hT hR h0) (by omega) ⟨fun z => s221 (fun y => z y.1.2), fun z => ⟨xi, ?_⟩⟩, fun w => absurd w (by decide), fun w => absurd w (by decide), fun w => absurd w (by decide), fun w => absurd w (by decide), fun w => absurd w (by decide), fun _ _ _ _ w => absurd rfl w⟩
  rw [ei, e64]
  exact ⟨fun w => s239 (Or.inl ⟨(inb 3).mp z, w⟩), fun w => s221 (fun y => y.2 w)⟩
theorem c327_8 (xs : List Int32) (d : Nat) {J : JV} {D : Nat → Prop} {σ : RS} {m : yM} (h : RJ J D σ m) {n : Nat} {k : Int32} (hk : k = 8 ∨ k = 11) : yC (xg xs) (d + 1) 327 [.ref 58, .int (nI (J.2.2.2 n)), .int k] m (JQ J D m n (.inl σ)) := by
  rcases hk with rfl | rfl
  · exact w327_0 xs d _ _ m _ ⟨fun w => absurd w (by decide), fun w => absurd w (by decide), fun w => absurd w (by decide), fun w => absurd w (by decide), fun w => absurd w (by decide), fun w => absurd w (by decide), fun w => absurd w (by decide), fun w => absurd w (by decide), fun w => absurd w (by decide), fun w => absurd w (by decide), fun _ _ _ _ _ _ _ _ _ _ => ⟨rfl, JK.re m, h⟩⟩
  · exact w327_0 xs d _ _ m _ ⟨fun w => absurd w (by decide), fun w => absurd w (by decide), fun w => absurd w (by decide), fun w => absurd w (by decide), fun w => absurd w (by decide), fun w => absurd w (by decide), fun w => absurd w (by decide), fun w => absurd w (by decide), fun w => absurd w (by decide), fun w => absurd w (by decide), fun _ _ _ _ _ _ _ _ _ _ => ⟨rfl, JK.re m, h⟩⟩
theorem c327_5 (xs : List Int32) (d : Nat) {J : JV} {D : Nat → Prop} {m : yM} {n : Nat} {R : RS ⊕ Int32} (h : yC (xg xs) d 332 [.ref 58, .int (nI (J.2.2.2 n))] m (JQ J D m n R)) : yC (xg xs) (d + 1) 327 [.ref 58, .int (nI (J.2.2.2 n)), .int 5] m (JQ J D m n R) := w327_0 xs d _ _ m _ ⟨fun w => absurd w (by decide), fun w => absurd w (by decide), fun w => absurd w (by decide), fun w => absurd w (by decide), fun w => absurd w (by decide), fun _ => y_jq h (Nat.le_refl _), fun w => absurd w (by decide), fun w => absurd w (by decide), fun w => absurd w (by decide), fun w => absurd w (by decide), fun _ _ _ _ _ w => absurd rfl w⟩
theorem c327_6 (xs : List Int32) (d : Nat) {J : JV} {D : Nat → Prop} {m : yM} {n : Nat} {R : RS ⊕ Int32} (h : yC (xg xs) d 336 [.ref 58, .int (nI (J.2.2.2 n))] m (JQ J D m n R)) : yC (xg xs) (d + 1) 327 [.ref 58, .int (nI (J.2.2.2 n)), .int 6] m (JQ J D m n R) := w327_0 xs d _ _ m _ ⟨fun w => absurd w (by decide), fun w => absurd w (by decide), fun w => absurd w (by decide), fun w => absurd w (by decide), fun w => absurd w (by decide), fun w => absurd w (by decide), fun _ => y_jq h (Nat.le_refl _), fun w => absurd w (by decide), fun w => absurd w (by decide), fun w => absurd w (by decide), fun _ _ _ _ _ _ w => absurd rfl w⟩
theorem c327_6g (xs : List Int32) (d : Nat) {J : JV} {m : yM} {n : Nat} {P : Option Value → yM → Prop} (hP : ∀ r m', P r m' → r = none) (h : yC (xg xs) d 336 [.ref 58, .int (nI (J.2.2.2 n))] m P) : yC (xg xs) (d + 1) 327 [.ref 58, .int (nI (J.2.2.2 n)), .int 6] m P := w327_0 xs d _ _ m _ ⟨fun w => absurd w (by decide), fun w => absurd w (by decide), fun w => absurd w (by decide), fun w => absurd w (by decide), fun w => absurd w (by decide), fun w => absurd w (by decide), fun _ => yC.mono (Nat.le_refl _) (fun r m' q => ⟨hP r m' q, (hP r m' q) ▸ q⟩) h, fun w => absurd w (by decide), fun w => absurd w (by decide), fun w => absurd w (by decide), fun _ _ _ _ _ _ w => absurd rfl w⟩
theorem c327_7 (xs : List Int32) (d : Nat) {J : JV} {D : Nat → Prop} {m : yM} {n : Nat} {R : RS ⊕ Int32} (h : yC (xg xs) d 339 [.ref 58, .int (nI (J.2.2.2 n))] m (JQ J D m n R)) : yC (xg xs) (d + 1) 327 [.ref 58, .int (nI (J.2.2.2 n)), .int 7] m (JQ J D m n R) := w327_0 xs d _ _ m _ ⟨fun w => absurd w (by decide), fun w => absurd w (by decide), fun w => absurd w (by decide), fun w => absurd w (by decide), fun w => absurd w (by decide), fun w => absurd w (by decide), fun w => absurd w (by decide), fun _ => y_jq h (Nat.le_refl _), fun w => absurd w (by decide), fun w => absurd w (by decide), fun _ _ _ _ _ _ _ w => absurd rfl w⟩
theorem i64_e (f t : Int32) : (t.toInt64 - f.toInt64 + 1).toInt = t.toInt - f.toInt + 1 := by
  have := i32_b f
  have := i32_b t
  rw [Int64.toInt_add, i64_s, show (1 : Int64).toInt = 1 from rfl, bm64 (by omega) (by omega)]
theorem elT_32 (f t : Int32) : (t.toInt64 - f.toInt64 + 1).toInt32 = t - f + 1 := by
  rw [Int64.toInt32_add, Int64.toInt32_sub, Int32.toInt32_toInt64, Int32.toInt32_toInt64]
  rfl
/-- an array's type -/
theorem c327_9 (xs : List Int32) (d : Nat) {J : JV} {D : Nat → Prop} {σ : RS} {m : yM} (h : RJ J D σ m) (h0 : 0 < σ.1.length) {n : Nat} (hn : n < J.2.2.1.length) (hK : kids J.2.2.1 n = [n + 1, n + 2, n + 3]) (n1 : CN J σ (n + 1)) (n2 : CN J σ (n + 2)) (hnD : ¬ D n) (hne : tnN J σ n) : yC (xg xs) (d + 2) 327 [.ref 58, .int (nI (J.2.2.2 n)), .int 9] m (JQ J D m n (lkArr σ n)) := by
  have hT := h.1
  have hR := h.2.1
  have xi := hT.x hn
  have ei := hT.c hn
  have e66 := hT.k0 hn (c := n + 1) (by rw [hK]; rfl)
  have e68 : m.1 68 (J.2.2.2 (n + 1)) = nI (J.2.2.2 (n + 2)) := by rw [(hT.kc hn (j := 0) (c := n + 1) (by rw [hK]; rfl)).2.2, hK]; rfl
  have x1 := hT.x n1.1
  have c1 := hT.c n1.1
  have x2 := hT.x n2.1
  have c2 := hT.c n2.1
  obtain ⟨a64, a62⟩ := n1.v hT
  obtain ⟨b64, b62⟩ := n2.v hT
  have inb : ∀ k, (curB σ).1 = k ↔ inB σ k := fun k => ⟨fun z => ⟨h0, z⟩, fun z => z.2⟩
  have l1 : lg_cmp (elT σ n) 1 < 0 ↔ (σ.2.2.2.1 (n + 2)) < (σ.2.2.2.1 (n + 1)) := by
    rw [lg_cmp_lt, Int64.lt_iff_toInt_lt, Int32.lt_iff_toInt_lt]
    unfold elT
    rw [i64_e, show (1 : Int64).toInt = 1 from rfl]
    omega
  have l2 : lg_cmp (elT σ n) 256 ≤ 0 ↔ lg_cmp ((σ.2.2.2.1 (n + 2)).toInt64 - (σ.2.2.2.1 (n + 1)).toInt64) 256 < 0 := by
    rw [lg_cmp_lt, lg_cmp_le, Int64.lt_iff_toInt_lt, Int64.le_iff_toInt_le]
    unfold elT
    rw [i64_e, i64_s, show (256 : Int64).toInt = 256 from rfl]
    omega
  unfold lkArr
  have s380 : ∀ (u : Int32) (b : Bool), u = (if b = true then 1 else 0) → (b = true ↔ (inB σ 1 ∨ σ.2.2.1 (n + 1) = 31 ∨ σ.2.2.1 (n + 2) = 31 ∨ lg_cmp (elT σ n) 1 < 0 ∨ ¬ lg_cmp (elT σ n) 256 ≤ 0)) → yP (xg xs) (d + 2) 327 380 [(1, .int (nI (J.2.2.2 n)))] [.int u, .int (16 : Int32), .ref 58] m (JQ J D m n (if inB σ 1 ∨ σ.2.2.1 (n + 1) = 31 ∨ σ.2.2.1 (n + 2) = 31 ∨ lg_cmp (elT σ n) 1 < 0 ∨ ¬ lg_cmp (elT σ n) 256 ≤ 0 then .inr 16 else .inl (setT (setV σ n (elT σ n).toInt32) n (σ.2.2.2.1 (n + 3))))) := by
    intro u b hu hb
    refine w327_380 xs (d + 1) _ _ _ m _ ?_
    cases b
    · subst hu
      rw [if_neg (fun z => absurd (hb.mpr z) (by decide))]
      exact rl0 ⟨rfl, JK.re m, h.nt (n := n) rfl rfl (fun i hi => ⟨rfl, upI_o _ _ hi, upI_o _ _ hi⟩) hne hnD⟩
    · subst hu
      rw [if_pos (hb.mp rfl)]
      exact rl1 (by omega) hT hn hR.f0 ⟨rfl, (JK.re m).fl J 16 n, FE.mk J m (by decide) n⟩
  have s375 := fun (p : inB σ 1 ∨ σ.2.2.1 (n + 1) = 31 ∨ σ.2.2.1 (n + 2) = 31 ∨ lg_cmp (elT σ n) 1 < 0 ∨ ¬ lg_cmp (elT σ n) 256 ≤ 0) => w327_375 xs (d + 1) _ _ m _ (s380 1 true rfl ⟨fun _ => p, fun _ => rfl⟩)
  have s357 : ∀ u : Int32, (u = 0 ↔ ¬ (σ.2.2.1 (n + 1) = 31 ∨ σ.2.2.1 (n + 2) = 31 ∨ lg_cmp (elT σ n) 1 < 0 ∨ ¬ lg_cmp (elT σ n) 256 ≤ 0)) → yP (xg xs) (d + 2) 327 357 [(0, .ref 58), (1, .int (nI (J.2.2.2 n)))] [.int u] m (JQ J D m n (if inB σ 1 ∨ σ.2.2.1 (n + 1) = 31 ∨ σ.2.2.1 (n + 2) = 31 ∨ lg_cmp (elT σ n) 1 < 0 ∨ ¬ lg_cmp (elT σ n) 256 ≤ 0 then .inr 16 else .inl (setT (setV σ n (elT σ n).toInt32) n (σ.2.2.2.1 (n + 3))))) := by
    intro u hu
    refine w327_357 xs (d + 1) _ _ m _ (y_ci (c331 xs d hT hR h0) (by omega) ⟨fun z => s375 (Or.inl ((inb 1).mp z)), fun z => ⟨fun w => s380 0 false rfl ⟨fun y => absurd y (by decide), fun y => absurd y (fun y => y.elim (fun y => z y.2) (hu.mp w))⟩, fun w => s375 (Or.inr (Decidable.byContradiction (fun y => w (hu.mpr y))))⟩⟩)
  have s352 := fun (p : σ.2.2.1 (n + 1) = 31 ∨ σ.2.2.1 (n + 2) = 31 ∨ lg_cmp (elT σ n) 1 < 0 ∨ ¬ lg_cmp (elT σ n) 256 ≤ 0) => w327_352 xs (d + 1) _ m _ (s357 1 ⟨fun y => absurd y (by decide), fun y => absurd p y⟩)
  refine w327_0 xs (d + 1) _ _ m _ ⟨fun w => absurd w (by decide), fun w => absurd w (by decide), fun w => absurd w (by decide), fun w => absurd w (by decide), fun w => absurd w (by decide), fun w => absurd w (by decide), fun w => absurd w (by decide), fun w => absurd w (by decide), fun _ => ⟨xi, ?_⟩, fun w => absurd w (by decide), fun _ _ _ _ _ _ _ _ w => absurd rfl w⟩
  rw [ei, e66, c1, e68, c2, a62, b62, a64, b64]
  refine ⟨x1, x1, fun z => s352 (Or.inl z), fun z => ⟨x2, fun z2 => s352 (Or.inr (Or.inl z2)), fun z2 => ⟨x1, x2, fun z3 => s352 (Or.inr (Or.inr (Or.inl (l1.mpr z3)))), fun z3 => ⟨x2, x1, fun z4 => s357 0 ⟨fun _ y => ?_, fun _ => rfl⟩, fun z4 => s352 (Or.inr (Or.inr (Or.inr (fun y => z4 (l2.mp y)))))⟩⟩⟩⟩
  rcases y with y | y | y | y
  · exact z y
  · exact z2 y
  · exact z3 (l1.mp y)
  · exact y (l2.mpr z4)
/-- a block's type -/
theorem c327_10 (xs : List Int32) (d : Nat) {J : JV} (hO : JO J) {D : Nat → Prop} {σ : RS} {m : yM} (h : RJ J D σ m) (h0 : 0 < σ.1.length) (hd : dsN σ) {n : Nat} (hn : n < J.2.2.1.length) (hvt : ¬ vtF J.2.2.1 n = 0) (hv : σ.2.2.2.1 n = vF J.2.2.1 n) (hnD : ¬ D n) (hne : tnN J σ n) : yC (xg xs) (d + 6) 327 [.ref 58, .int (nI (J.2.2.2 n)), .int 10] m (JQ J D m n (lkBtyp σ n)) := by
  have hT := h.1
  have hR := h.2.1
  have hB := hR.nB.2
  have xi := hT.x hn
  have ei := hT.c hn
  have hx := (hT.2.1 n hn).2.2.2.2.1 hvt
  have inb : ∀ k, (curB σ).1 = k ↔ inB σ k := fun k => ⟨fun z => ⟨h0, z⟩, fun z => z.2⟩
  unfold lkBtyp
  rw [hv]
  have s430 : (fBlk σ 2 41 50 9 (vF J.2.2.1 n) = -1 ∨ inB σ 1) → yP (xg xs) (d + 6) 327 430 [(1, .int (nI (J.2.2.2 n)))] [.int (17 : Int32), .ref 58] m (JQ J D m n (if fBlk σ 2 41 50 9 (vF J.2.2.1 n) = -1 ∨ inB σ 1 then .inr 17 else .inl (setV σ n (fBlk σ 2 41 50 9 (vF J.2.2.1 n))))) := by
    intro p
    rw [if_pos p]
    exact w327_430 xs (d + 5) _ _ m _ (w327_435 xs (d + 5) _ _ _ m _ (rl1 (by omega) hT hn hR.f0 ⟨rfl, (JK.re m).fl J 17 n, FE.mk J m (by decide) n⟩))
  have s434 : ¬ (fBlk σ 2 41 50 9 (vF J.2.2.1 n) = -1 ∨ inB σ 1) → yP (xg xs) (d + 6) 327 434 [(1, .int (nI (J.2.2.2 n)))] [.int (17 : Int32), .ref 58] m (JQ J D m n (if fBlk σ 2 41 50 9 (vF J.2.2.1 n) = -1 ∨ inB σ 1 then .inr 17 else .inl (setV σ n (fBlk σ 2 41 50 9 (vF J.2.2.1 n))))) := by
    intro p
    rw [if_neg p]
    exact w327_434 xs (d + 5) _ _ m _ (w327_435 xs (d + 5) _ _ _ m _ (rl0 ⟨rfl, JK.re m, h.nt (n := n) rfl rfl (fun i hi => ⟨rfl, upI_o _ _ hi, rfl⟩) hne hnD⟩))
  refine w327_0 xs (d + 5) _ _ m _ ⟨fun w => absurd w (by decide), fun w => absurd w (by decide), fun w => absurd w (by decide), fun w => absurd w (by decide), fun w => absurd w (by decide), fun w => absurd w (by decide), fun w => absurd w (by decide), fun w => absurd w (by decide), fun w => absurd w (by decide), fun _ => y_ci (c331 xs (d + 4) hT hR h0) (by omega) ⟨fun z => s430 (Or.inr ((inb 1).mp z)), fun z => ⟨xi, ?_⟩⟩, fun _ _ _ _ _ _ _ _ _ w => absurd rfl w⟩
  rw [ei]
  have n1 : ¬ inB σ 1 := fun y => z y.2
  refine y_ci (c325b xs (d + 1) hO hT hx) (by omega) ?_
  rcases fBlk_r hO.1 hd hB h0 hx (a := 41) (c := 9) (by omega) (by omega) 2 with ⟨q1, q2, q3⟩ | ⟨s, s1, s2, s3⟩ | ⟨b, p1, p2, p3, p4, p5⟩
  · have q2 : stN (vF J.2.2.1 n) 41 50 = -1 := q2
    rw [q2]
    refine ⟨fun y => absurd rfl y, fun _ => ⟨xi, y_ci (c333 xs (d + 4) hO.1 hT hR h0 2 hx) (by omega) ?_⟩⟩
    rw [q3]
    exact ⟨fun y => absurd rfl y, fun _ => s430 (Or.inl q1)⟩
  · have s3 : stN (vF J.2.2.1 n) 41 50 = nI s := s3
    have s2 : fBlk σ 2 41 50 9 (vF J.2.2.1 n) = nI s := s2
    rw [s3]
    exact ⟨fun _ => s434 (fun y => y.elim (fun y => nI_m1 (by omega) (s2.symm.trans y)) n1), fun y => absurd y (nI_m1 (by omega))⟩
  · have p3 : stN (vF J.2.2.1 n) 41 50 = -1 := p3
    have p2 : fBlk σ 2 41 50 9 (vF J.2.2.1 n) = nI (9 + b) := p2
    rw [p3]
    refine ⟨fun y => absurd rfl y, fun _ => ⟨xi, y_ci (c333 xs (d + 4) hO.1 hT hR h0 2 hx) (by omega) ?_⟩⟩
    rw [p4]
    exact ⟨fun _ => s434 (fun y => y.elim (fun y => nI_m1 (by omega) (p2.symm.trans y)) n1), fun y => absurd y (nI_m1 (by omega))⟩
