/-! THE PURE MACHINE IS SAFE: expressions -/
theorem cnN_e (σ : RS) : ∀ (k v : Nat), cnN σ (k + 1) v = cnN σ k v + (if (vD σ (v + k)).1 = 1 then 1 else 0)
  | 0, v => by
    rw [cnN_s]
    show (if (vD σ v).1 = 1 then 1 else 0) + 0 = 0 + (if (vD σ v).1 = 1 then 1 else 0)
    omega
  | k + 1, v => by
    rw [cnN_s, cnN_e σ k (v + 1), cnN_s, show v + 1 + k = v + (k + 1) by omega]
    omega
theorem clA_T {f : Int32} {e : Nat → List IT} (hf : ¬ f = 3) : ∀ (L : List Nat) (j h : Nat), (∀ c, c ∈ L → ∀ h, hT (e c) h (h + 1)) → hT (clA f e L j) h (h + L.length)
  | [], j, h, _ => hT.nil
  | c :: L, j, h, he => by
    show hT (e c ++ ((if f = 3 ∧ 1 ≤ j then [j1 7 (if j = 1 then 24 else 23)] else []) ++ clA f e L (j + 1))) h (h + (L.length + 1))
    rw [if_neg (fun z => hf z.1), List.nil_append]
    refine (he c List.mem_cons_self h).app ?_
    have := clA_T hf L (j + 1) (h + 1) (fun x hx => he x (List.mem_cons_of_mem _ hx))
    rw [show h + (L.length + 1) = h + 1 + L.length by omega]
    exact this
theorem clA_3 {e : Nat → List IT} {L : List Nat} (hL : L.length = 3) (h : Nat) (he : ∀ c, c ∈ L → ∀ h, hT (e c) h (h + 1)) : hT (clA 3 e L 0) h (h + 1) := by
  match L, hL with
  | [c0, c1, c2], _ =>
    have e0 := he c0 (by simp)
    have e1 := he c1 (by simp)
    have e2 := he c2 (by simp)
    show hT (e c0 ++ ((if (3 : Int32) = 3 ∧ 1 ≤ 0 then [j1 7 (if 0 = 1 then 24 else 23)] else []) ++ (e c1 ++ ((if (3 : Int32) = 3 ∧ 1 ≤ 0 + 1 then [j1 7 (if 0 + 1 = 1 then 24 else 23)] else []) ++ (e c2 ++ ((if (3 : Int32) = 3 ∧ 1 ≤ 0 + 1 + 1 then [j1 7 (if 0 + 1 + 1 = 1 then 24 else 23)] else []) ++ [])))))) h (h + 1)
    rw [if_neg (by decide), if_pos (by decide), if_pos (by decide)]
    exact (e0 h).app (hT.nil.app ((e1 (h + 1)).app ((hT.i (hS_7 h)).app ((e2 (h + 1)).app ((hT.i (hS_7 h)).app hT.nil)))))
theorem cOw_T (σ : RS) (b f0 : Nat) : ∀ k h, hT (cOw σ b f0 k) (h + cnN σ k f0) h
  | 0, h => hT.nil
  | k + 1, h => by
    show hT ((if (vD σ (f0 + k)).1 = 1 then [j3 6 (nI b) (vD σ (f0 + k)).2.2.2 0] else []) ++ cOw σ b f0 k) (h + cnN σ (k + 1) f0) h
    rw [cnN_e]
    by_cases c : (vD σ (f0 + k)).1 = 1
    · rw [if_pos c, if_pos c]
      exact (hT.i (hS_6 (h + cnN σ k f0))).app (cOw_T σ b f0 k h)
    · rw [if_neg c, if_neg c]
      exact hT.nil.app (cOw_T σ b f0 k h)
theorem clA_A {σ : RS} {u : Nat} {W : Nat → Prop} {f : Int32} {e : Nat → List IT} : ∀ (L : List Nat) (j : Nat), (∀ c, c ∈ L → itA σ u W (e c)) → itA σ u W (clA f e L j)
  | [], j, _ => itA.nil
  | c :: L, j, he => by
    show itA σ u W (e c ++ ((if f = 3 ∧ 1 ≤ j then [j1 7 (if j = 1 then 24 else 23)] else []) ++ clA f e L (j + 1)))
    refine (he c List.mem_cons_self).app (itA.app ?_ (clA_A L (j + 1) (fun x hx => he x (List.mem_cons_of_mem _ hx))))
    split
    · refine itA.i (itS_7 rfl ?_) rfl
      show 0 ≤ (if j = 1 then (24 : Int32) else 23) ∧ (if j = 1 then (24 : Int32) else 23) ≤ 24
      split <;> decide
    · exact itA.nil
theorem nFun_r (f t : Int32) : 0 ≤ nFun f t ∧ nFun f t ≤ 24 := by
  unfold nFun
  split
  · split <;> decide
  split
  · decide
  split
  · decide
  split
  · split <;> decide
  split
  · split <;> decide
  split <;> decide
theorem nTwo_R {j : Nat} (hj : j < 14) (t : Int32) : 0 ≤ nTwo (nI j) t ∧ nTwo (nI j) t ≤ 24 := by
  unfold nTwo
  have tb : ∀ j, j < 14 → 0 ≤ (if 3 ≤ nI j then (if 8 < nI j then nI j - 9 + 0 else 13 + nI j - 3) else (if nI j = 0 then 11 else if nI j = 1 then 12 else 10)) ∧ (if 3 ≤ nI j then (if 8 < nI j then nI j - 9 + 0 else 13 + nI j - 3) else (if nI j = 0 then 11 else if nI j = 1 then 12 else 10)) ≤ 24 ∧ 0 ≤ (if 3 ≤ nI j then (if 8 < nI j then nI j - 9 + 5 else 13 + nI j - 3) else (if nI j = 0 then 11 else if nI j = 1 then 12 else 10)) ∧ (if 3 ≤ nI j then (if 8 < nI j then nI j - 9 + 5 else 13 + nI j - 3) else (if nI j = 0 then 11 else if nI j = 1 then 12 else 10)) ≤ 24 := by decide
  obtain ⟨a, b, c, d⟩ := tb j hj
  by_cases q : t = 1
  · rw [if_pos q]
    exact ⟨a, b⟩
  · rw [if_neg q]
    exact ⟨c, d⟩
theorem cE_G {m0 : yM} {T : Nat} {F : List ND} {s : SU} {b : Nat} (h : UQ m0 T F s b) : ∀ (N n : Nat), TW m0 T F N n → nB s b ≤ n → n + szF F n ≤ nB s b + szF F (nB s b) → ¬ xNm F n → itA s.1 b (fun _ => False) (cE F s.1 N n) ∧ ∀ hh, hT (cE F s.1 N n) hh (hh + 1) := by
  have hS := h.hs
  have n37 := h.n37
  intro N
  induction N with
  | zero => intro n hW; exact absurd hW (fun z => z)
  | succ N ih =>
    intro n hW hlo hhi hx
    have at' := hW.at
    have hn : n < F.length := by omega
    have kk := fun (k : Nat) h1 h2 h3 => h.kk (n := n) (k := k) hn h1 h2 h3
    have k37 := hW.k37
    have ok := hW.ok
    have cj := h.c (j := n) hlo (by omega) hn
    have kid : ∀ c, c ∈ kids F n → exK (kK F c) → (kK F n = 32 ∨ kK F n = 34 ∨ kK F n = 35 ∨ kK F n = 36) → itA s.1 b (fun _ => False) (cE F s.1 N c) ∧ ∀ hh, hT (cE F s.1 N c) hh (hh + 1) := fun c hc he hk => by
      have z := hW.kin hc
      exact ih c (hW.2.2.2.2.2.2 c hc) (by omega) (by omega) (hS.kid hW hn hc (by omega) he).2.2
    unfold cE
    by_cases q6 : s.1.2.2.1 n = 6
    · rw [if_pos q6]
      have k := kk 6 (by omega) (by omega) q6
      obtain ⟨v0, w1, w2, -⟩ := cj.1 (Or.inl ⟨k, hx⟩)
      obtain ⟨v, v1, v2, v3, v4⟩ := h.g ⟨v0, w1, w2⟩ ((hS.v hn).1 k hx)
      obtain ⟨c, z, a1, a2, a3, a4, a5, -⟩ := h.v v3
      have := a5 v4
      rw [v2]
      exact ⟨itA.i (itS_1 rfl a1 (by omega)) rfl, fun hh => hT.i (hS_1 hh)⟩
    rw [if_neg q6]
    by_cases q33 : s.1.2.2.1 n = 33
    · rw [if_pos q33]
      have k := kk 33 (by omega) (by omega) q33
      obtain ⟨v, v1, x, x1, x2, x3, x4⟩ := cj.2.1 k
      obtain ⟨c, z, a1, a2, a3, a4, -⟩ := h.v v1
      exact ⟨itA.i (itS_1 rfl x1 (by omega)) rfl, fun hh => hT.i (hS_1 hh)⟩
    rw [if_neg q33]
    by_cases q32 : s.1.2.2.1 n = 32
    · rw [if_pos q32]
      have k := kk 32 (by omega) (by omega) q32
      rw [k] at ok
      obtain ⟨-, a, ha, eks⟩ := ok
      obtain ⟨m1, m2, -⟩ := hW.k1 eks
      have mc : n + 1 ∈ kids F n := by rw [m1]; exact List.mem_cons_self
      obtain ⟨i1, i2⟩ := kid _ mc (hW.mk (p := exK) (fun x hx => by rw [eks] at hx; rw [List.mem_singleton.mp hx]; exact ha) mc) (by omega)
      obtain ⟨v0, w1, w2, -⟩ := cj.1 (Or.inr (Or.inl k))
      obtain ⟨v, v1, v2, v3, v4⟩ := h.g ⟨v0, w1, w2⟩ ((hS.v hn).2.1 k)
      obtain ⟨c, z, a1, a2, a3, a4, -, a6, -⟩ := h.v v3
      rw [v2]
      exact ⟨i1.app (itA.i (itS_3 rfl a1 (a6 v4) (by omega) (by omega)) rfl), fun hh => (i2 hh).app (hT.i (hS_3 hh))⟩
    rw [if_neg q32]
    by_cases q34 : s.1.2.2.1 n = 34
    · rw [if_pos q34]
      have k := kk 34 (by omega) (by omega) q34
      have ok' := ok
      rw [k] at ok'
      have kd : ∀ c, c ∈ kids F n → itA s.1 b (fun _ => False) (cE F s.1 N c) ∧ ∀ hh, hT (cE F s.1 N c) hh (hh + 1) := fun c hc => kid c hc (hW.mk ok'.2 hc) (by omega)
      have A1 := clA_A (f := s.1.2.2.2.1 n) (kids F n) 0 (fun c hc => (kd c hc).1)
      have T1 : ¬ s.1.2.2.2.1 n = 3 → ∀ hh, hT (clA (s.1.2.2.2.1 n) (cE F s.1 N) (kids F n) 0) hh (hh + (kids F n).length) := fun z hh => clA_T z (kids F n) 0 hh (fun c hc => (kd c hc).2)
      have kl : (kids F n).length ≤ 16400 := Nat.le_trans (kds_len _ _ _ _) (by have := hS.1.2.2.2.1; omega)
      rcases cj.2.2 q34 with ⟨q, q1, q2⟩ | ⟨g, g1, g2, g3⟩
      · have ln : nI (kids F n).length = xar_5.getD q 0 := by
          rcases (hS.v hn).2.2.2.2 q34 with ⟨q', r1, r2, r3⟩ | ⟨b', r1, r2, r3⟩
          · rw [q2] at r2
            rw [(nI_eq (by omega) (by omega)).mp r2]
            exact r3
          · rw [q2] at r2
            have := h.2.1
            have := (nI_eq (by omega) (by omega)).mp r2
            omega
        unfold clZ
        rcases (show q = 0 ∨ q = 1 ∨ q = 2 ∨ q = 3 ∨ q = 4 ∨ q = 5 ∨ q = 6 ∨ q = 7 ∨ q = 8 ∨ q = 9 by omega) with rfl | rfl | rfl | rfl | rfl | rfl | rfl | rfl | rfl | rfl
        · have l : (kids F n).length = 1 := (nI_eq (b := 1) (by omega) (by omega)).mp ln
          have q2 : s.1.2.2.2.1 n = 0 := q2
          have T2 := T1 (by rw [q2]; decide)
          rw [q2, l] at T2
          rw [q2] at A1 ⊢
          rw [if_pos (by decide), if_neg (by decide), if_neg (by decide), if_neg (by decide), l, if_pos rfl]
          exact ⟨A1.app (itA.i (itS_n (o := 8) rfl (by decide)) rfl), fun hh => (T2 hh).app (hT.i (hS_8 hh))⟩
        · have l : (kids F n).length = 2 := (nI_eq (b := 2) (by omega) (by omega)).mp ln
          have q2 : s.1.2.2.2.1 n = 1 := q2
          have T2 := T1 (by rw [q2]; decide)
          rw [q2, l] at T2
          rw [q2] at A1 ⊢
          rw [if_pos (by decide), if_neg (by decide), if_neg (by decide), if_neg (by decide), l, if_neg (by decide)]
          exact ⟨A1.app (itA.i (itS_7 rfl (nFun_r _ _)) rfl), fun hh => (T2 hh).app (hT.i (hS_7 hh))⟩
        · have l : (kids F n).length = 2 := (nI_eq (b := 2) (by omega) (by omega)).mp ln
          have q2 : s.1.2.2.2.1 n = 2 := q2
          have T2 := T1 (by rw [q2]; decide)
          rw [q2, l] at T2
          rw [q2] at A1 ⊢
          rw [if_pos (by decide), if_neg (by decide), if_neg (by decide), if_neg (by decide), l, if_neg (by decide)]
          exact ⟨A1.app (itA.i (itS_7 rfl (nFun_r _ _)) rfl), fun hh => (T2 hh).app (hT.i (hS_7 hh))⟩
        · have l : (kids F n).length = 3 := (nI_eq (b := 3) (by omega) (by omega)).mp ln
          have q2 : s.1.2.2.2.1 n = 3 := q2
          rw [q2] at A1 ⊢
          rw [if_pos (by decide), if_neg (by decide), if_pos rfl, List.append_nil]
          exact ⟨A1, fun hh => clA_3 l hh (fun c hc => (kd c hc).2)⟩
        · have l : (kids F n).length = 3 := (nI_eq (b := 3) (by omega) (by omega)).mp ln
          have q2 : s.1.2.2.2.1 n = 4 := q2
          have T2 := T1 (by rw [q2]; decide)
          rw [q2, l] at T2
          rw [q2] at A1 ⊢
          rw [if_pos (by decide), if_pos rfl]
          exact ⟨A1.app (itA.i (itS_n (o := 9) rfl (by decide)) rfl), fun hh => (T2 hh).app (hT.i (hS_9 hh))⟩
        · have l : (kids F n).length = 2 := (nI_eq (b := 2) (by omega) (by omega)).mp ln
          have q2 : s.1.2.2.2.1 n = 5 := q2
          have T2 := T1 (by rw [q2]; decide)
          rw [q2, l] at T2
          rw [q2] at A1 ⊢
          rw [if_pos (by decide), if_neg (by decide), if_neg (by decide), if_neg (by decide), l, if_neg (by decide)]
          exact ⟨A1.app (itA.i (itS_7 rfl (nFun_r _ _)) rfl), fun hh => (T2 hh).app (hT.i (hS_7 hh))⟩
        · have l : (kids F n).length = 2 := (nI_eq (b := 2) (by omega) (by omega)).mp ln
          have q2 : s.1.2.2.2.1 n = 6 := q2
          have T2 := T1 (by rw [q2]; decide)
          rw [q2, l] at T2
          rw [q2] at A1 ⊢
          rw [if_pos (by decide), if_neg (by decide), if_neg (by decide), if_neg (by decide), l, if_neg (by decide)]
          exact ⟨A1.app (itA.i (itS_7 rfl (nFun_r _ _)) rfl), fun hh => (T2 hh).app (hT.i (hS_7 hh))⟩
        · have l : (kids F n).length = 1 := (nI_eq (b := 1) (by omega) (by omega)).mp ln
          have q2 : s.1.2.2.2.1 n = 7 := q2
          have T2 := T1 (by rw [q2]; decide)
          rw [q2, l] at T2
          rw [q2] at A1 ⊢
          rw [if_pos (by decide), if_neg (by decide), if_neg (by decide), if_neg (by decide), l, if_pos rfl]
          exact ⟨A1.app (itA.i (itS_n (o := 8) rfl (by decide)) rfl), fun hh => (T2 hh).app (hT.i (hS_8 hh))⟩
        · have l : (kids F n).length = 1 := (nI_eq (b := 1) (by omega) (by omega)).mp ln
          have q2 : s.1.2.2.2.1 n = 8 := q2
          have T2 := T1 (by rw [q2]; decide)
          rw [q2, l] at T2
          rw [q2] at A1 ⊢
          rw [if_pos (by decide), if_neg (by decide), if_neg (by decide), if_pos rfl, List.append_nil]
          exact ⟨A1, fun hh => T2 hh⟩
        · have l : (kids F n).length = 1 := (nI_eq (b := 1) (by omega) (by omega)).mp ln
          have q2 : s.1.2.2.2.1 n = 9 := q2
          have T2 := T1 (by rw [q2]; decide)
          rw [q2, l] at T2
          rw [q2] at A1 ⊢
          rw [if_pos (by decide), if_neg (by decide), if_neg (by decide), if_neg (by decide), l, if_pos rfl]
          exact ⟨A1.app (itA.i (itS_n (o := 8) rfl (by decide)) rfl), fun hh => (T2 hh).app (hT.i (hS_8 hh))⟩
      · have h16 := h.2.1
        have n10 : ¬ s.1.2.2.2.1 n < 10 := by
          rw [g2]
          intro z
          have := (nI_ltI (b := 10) (by omega) (by omega)).mp z
          omega
        have n3 : ¬ s.1.2.2.2.1 n = 3 := by
          rw [g2]
          intro z
          have := (nI_eq (b := 3) (by omega) (by omega)).mp z
          omega
        have e10 : s.1.2.2.2.1 n - 10 = nI g := by
          rw [g2, show (10 : Int32) = nI 10 from rfl, nI_sub (by omega), Nat.add_sub_cancel]
        have gb : g < b := by
          obtain ⟨b', b1, b2⟩ := (h.ck n hlo (by omega)).1 q34 n10
          rw [e10] at b2
          have := h.2.2.1
          have := (nI_eq (by omega) (by omega)).mp b2
          omega
        have gk : (s.1.1.getD g dBK).1 = 1 := by
          rcases (hS.v hn).2.2.2.2 q34 with ⟨q', r1, r2, r3⟩ | ⟨b', r1, r2, r3⟩
          · rw [g2] at r2
            have := (nI_eq (by omega) (by omega)).mp r2
            omega
          · rw [g2] at r2
            have := (nI_eq (by omega) (by omega)).mp r2
            have : g = b' := by omega
            rw [this]
            exact r3
        have ow : ∀ kq, kq ≤ endV s.1 g - (s.1.1.getD g dBK).2.2.2.2 → itA s.1 b (fun _ => False) (cOw s.1 g (s.1.1.getD g dBK).2.2.2.2 kq) := by
          intro kq
          induction kq with
          | zero => intro _; exact itA.nil
          | succ kq ihk =>
            intro hk
            show itA s.1 b (fun _ => False) ((if (vD s.1 ((s.1.1.getD g dBK).2.2.2.2 + kq)).1 = 1 then [j3 6 (nI g) (vD s.1 ((s.1.1.getD g dBK).2.2.2.2 + kq)).2.2.2 0] else []) ++ cOw s.1 g (s.1.1.getD g dBK).2.2.2.2 kq)
            refine itA.app ?_ (ihk (by omega))
            split
            · rename_i c1
              have fm := hS.fm g (by omega)
              obtain ⟨c, z, d, a1, a2, a3, a4, a5, a6, a7, a8, a9, a10, a11, -⟩ := h.hp.1.v (b := g) (v := (s.1.1.getD g dBK).2.2.2.2 + kq) (by omega) (by omega) (by omega)
              have f8 : frm s.1 ((s.1.1.getD g dBK).2.2.2.2 + kq) = 8 := ((hS.2.2.1.1.pv hS.1).1.1 _ a9).2.1 (by rw [c1]; decide)
              have ed : cN s.1 g = d := by unfold cN; rw [a3, nI_clamp (by omega)]
              have z1 : z = 1 := by
                rcases a11 with ⟨w, e⟩ | ⟨w, e⟩ | ⟨w, e⟩
                · exact e
                · rw [w] at f8; exact absurd f8 (by decide)
                · rw [w] at f8; exact absurd f8 (by decide)
              exact itA.i (itS_5 (Or.inr rfl) rfl gb gk a1 (by omega)) rfl
            · exact itA.nil
        unfold clZ
        rw [if_neg n10, e10, nI_clamp (by omega)]
        refine ⟨A1.app ((ow _ (Nat.le_refl _)).app (itA.co (itS_16 rfl rfl gb gk) rfl (itA.i (itS_5 (Or.inl rfl) rfl gb gk (c := 0) rfl (by have := h.f1 g1 gk; omega)) rfl))), fun hh => ?_⟩
        refine (T1 n3 hh).app ?_
        rw [g3]
        exact (cOw_T s.1 g _ _ hh).app (hT.co (hS_16 hh) (hT.i (hS_5 hh)))
    rw [if_neg q34]
    by_cases q35 : s.1.2.2.1 n = 35
    · rw [if_pos q35]
      have k := kk 35 (by omega) (by omega) q35
      rw [k] at ok
      obtain ⟨-, ⟨j, j1, j2⟩, a, b', ha, hb, eks⟩ := ok
      obtain ⟨m1, m2, -⟩ := hW.k2 eks
      have mc1 : n + 1 ∈ kids F n := by rw [m1]; exact List.mem_cons_self
      have mc2 : n + 1 + szF F (n + 1) ∈ kids F n := by rw [m1]; exact List.mem_cons_of_mem _ List.mem_cons_self
      have ex : ∀ x, x ∈ (kids F n).map (kK F) → exK x := fun x hx => by
        rw [eks] at hx
        rcases List.mem_cons.mp hx with w | w
        · rw [w]; exact ha
        · rw [List.mem_singleton.mp w]; exact hb
      obtain ⟨i1, i2⟩ := kid _ mc1 (hW.mk (p := exK) ex mc1) (by omega)
      obtain ⟨i3, i4⟩ := kid _ mc2 (hW.mk (p := exK) ex mc2) (by omega)
      have ev : s.1.2.2.2.1 n = nI j := (h.1.1.2 n hn (Or.inl k) (by rw [q35, k]; rfl)).trans j2
      refine ⟨i1.app (i3.app (itA.i (itS_7 rfl ?_) rfl)), fun hh => (i2 hh).app ((i4 (hh + 1)).app (hT.i (hS_7 hh)))⟩
      show 0 ≤ nTwo (s.1.2.2.2.1 n) (s.1.2.2.2.2 n) ∧ nTwo (s.1.2.2.2.1 n) (s.1.2.2.2.2 n) ≤ 24
      rw [ev]
      exact nTwo_R j1 _
    rw [if_neg q35]
    by_cases q36 : s.1.2.2.1 n = 36
    · rw [if_pos q36]
      have k := kk 36 (by omega) (by omega) q36
      rw [k] at ok
      obtain ⟨-, -, a, ha, eks⟩ := ok
      obtain ⟨m1, m2, -⟩ := hW.k1 eks
      have mc : n + 1 ∈ kids F n := by rw [m1]; exact List.mem_cons_self
      obtain ⟨i1, i2⟩ := kid _ mc (hW.mk (p := exK) (fun x hx => by rw [eks] at hx; rw [List.mem_singleton.mp hx]; exact ha) mc) (by omega)
      exact ⟨i1.app (itA.i (itS_n (o := 8) rfl (by decide)) rfl), fun hh => (i2 hh).app (hT.i (hS_8 hh))⟩
    rw [if_neg q36]
    exact ⟨itA.i (itS_n (o := 0) rfl (by decide)) rfl, fun hh => hT.i (hS_0 hh)⟩
