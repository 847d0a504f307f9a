/-! THE PURE MACHINE IS SAFE: rungs, units -/
def RQq (F : List ND) (s : SU) (b : Nat) (R : List Nat) (cols : Nat) : Prop := R.length ≤ 12 ∧ 1 ≤ cols ∧ cols ≤ 12 ∧ ∀ row, row < R.length → ∀ l, 1 ≤ l → l ≤ cols → (kK F (clR F R row l) = 25 ∨ kK F (clR F R row l) = 28 → ∃ c, opC s.1 (clR F R row l + 1) = nI c ∧ c < cN s.1 b) ∧ (kK F (clR F R row l) = 25 → (s.1.2.2.2.1 (clR F R row l) = 0 ∨ s.1.2.2.2.1 (clR F R row l) = 1 ∨ s.1.2.2.2.1 (clR F R row l) = 2 ∨ s.1.2.2.2.1 (clR F R row l) = 3) ∧ (¬ s.1.2.2.2.1 (clR F R row l) < 2 → ∃ e, s.1.2.2.2.2 (clR F R row l) = nI e ∧ e < cN s.1 b))
theorem RQ_of {m0 : yM} {T : Nat} {F : List ND} {s : SU} {b : Nat} (h : UQ m0 T F s b) {N n : Nat} (hW : TW m0 T F N n) (k : kK F n = 23) (h1 : nB s b ≤ n) (h2 : n + szF F n ≤ nB s b + szF F (nB s b)) : RQq F s b (kids F n) (cel F (n + 1)).length := by
  have hS := h.hs
  obtain ⟨r1, r2, r3, r4, -⟩ := RG_of hS h.1.1.1.2.1 hW k
  refine ⟨r1, r2, r3, fun row hr l l1 l2 => ?_⟩
  have ok := hW.ok
  rw [k] at ok
  obtain ⟨-, ne, all⟩ := ok
  have mr : (kids F n).getD row 0 ∈ kids F n := List.mem_of_getElem? (getD_some hr)
  have kr := hW.mk all mr
  have zr := hW.kin mr
  have mx : clR F (kids F n) row l ∈ cel F ((kids F n).getD row 0) := by
    unfold clR
    refine List.mem_of_getElem? (getD_some ?_)
    rw [(r4 row hr).2]
    omega
  generalize clR F (kids F n) row l = x at mx ⊢
  generalize (kids F n).getD row 0 = r at *
  obtain ⟨x1, x2⟩ := mem_cel mx
  obtain ⟨M, hM⟩ := hS.1.1 r zr.2.2.2.1
  have zx := hM.kin x1
  obtain ⟨M', hM'⟩ := hS.1.1 x zx.2.2.2.1
  have okx := hM'.ok
  have ksx : s.1.2.2.1 x = nI (kK F x) ∨ ¬ kK F x = 25 := by
    rcases hS.ks zx.2.2.2.1 with w | ⟨w, w'⟩
    · exact Or.inl w
    · exact Or.inr (by omega)
  refine ⟨fun kc => ?_, fun kc => ?_⟩
  · have k1 : ∃ a, (a = 6 ∨ a = 33) ∧ (kids F x).map (kK F) = [a] := by
      rcases kc with y | y
      · rw [y] at okx
        rcases okx.2.2 with w | w
        · exact ⟨6, Or.inl rfl, w⟩
        · exact ⟨33, Or.inr rfl, w⟩
      · rw [y] at okx
        exact ⟨6, Or.inl rfl, okx.2.2⟩
    obtain ⟨a, ha, eks⟩ := k1
    obtain ⟨q1, q2, q3, q4⟩ := hM'.k1 eks
    have mk : x + 1 ∈ kids F x := by rw [q1]; exact List.mem_cons_self
    have zk := hM'.kin mk
    have we := hS.kid hM' zx.2.2.2.1 (c := x + 1) mk (by omega) (by rw [q2]; unfold exK; omega)
    have cj := h.c (j := x + 1) (by omega) (by omega) q3
    unfold opC
    rcases ha with w | w
    · have k6 : kK F (x + 1) = 6 := by omega
      have s6 : s.1.2.2.1 (x + 1) = 6 := by
        rcases hS.ks q3 with y | ⟨y, y'⟩
        · rw [y, k6]; rfl
        · omega
      rw [if_pos s6]
      obtain ⟨v0, w1, w2, -⟩ := cj.1 (Or.inl ⟨k6, we.2.2⟩)
      obtain ⟨v, v1, v2, v3, v4⟩ := h.g ⟨v0, w1, w2⟩ ((hS.v q3).1 k6 we.2.2)
      obtain ⟨c, z, a1, a2, a3, a4, a5, -⟩ := h.v v3
      have := a5 v4
      rw [v2]
      exact ⟨c, a1, by omega⟩
    · have k33 : kK F (x + 1) = 33 := by omega
      have s6 : ¬ s.1.2.2.1 (x + 1) = 6 := by
        rcases hS.ks q3 with y | ⟨y, y'⟩
        · rw [y, k33]; decide
        · omega
      rw [if_neg s6]
      obtain ⟨v, v1, y, y1, y2, y3, y4⟩ := cj.2.1 k33
      obtain ⟨c, z, a1, a2, a3, a4, -⟩ := h.v v1
      exact ⟨y, y1, by omega⟩
  · rw [kc] at okx
    have vx := hS.2.2.1.1.1.2.2.1 x zx.2.2.2.1 (by rw [kc]; decide)
    refine ⟨by rw [vx]; exact okx.2.1, fun nv => ?_⟩
    obtain ⟨c0, d, f, a1, a2, a3, a4, a5, a6, a7, -⟩ := h.2.2.2.2.1 b h.2.2.1 (by simp)
    have s25 : s.1.2.2.1 x = 25 := by
      rcases ksx with w | w
      · rw [w, kc]; rfl
      · exact absurd kc w
    obtain ⟨e, e1, e2⟩ := a7 x (by omega) (by omega) s25 nv
    have ed : cN s.1 b = d := by unfold cN; rw [a1, nI_clamp (by omega)]
    exact ⟨e, e1, by omega⟩
theorem m12 : ∀ l, l < 13 → 1 ≤ l → 12 * (nI l - 1) = nI (12 * (l - 1)) := by decide
theorem pwO_n {F : List ND} {R : List Nat} {P row l : Nat} (hl : 1 ≤ l) (hl2 : l ≤ 12) : pwO F R (nI P) row l = nI (P + 12 * (l - 1) + lsR F R l row) := by
  unfold pwO
  rw [m12 l (by omega) hl, nI_add, nI_add]
section LD
variable {F : List ND} {s : SU} {b : Nat} {R : List Nat} {cols P : Nat}
abbrev tW : Nat → Prop := fun _ => True
theorem fdC_G (hP : P + 156 = cN s.1 b) {row l : Nat} (hr : row < 12) (h1 : 1 ≤ l) (h2 : l ≤ 12) : itA s.1 b tW [fdC F R (nI P) row l] ∧ ∀ h, hT [fdC F R (nI P) row l] h (h + 1) := by
  unfold fdC
  by_cases c : l = 1
  · rw [if_pos c]
    exact ⟨itA.i (itS_n (o := 0) rfl (by decide)) rfl, fun h => hT.i (hS_0 h)⟩
  · rw [if_neg c, pwO_n (by omega) (by omega)]
    have := lsR_le F R (l - 1) row
    exact ⟨itA.i (itS_1 rfl rfl (by omega)) rfl, fun h => hT.i (hS_1 h)⟩
theorem pwS_G (hP : P + 156 = cN s.1 b) (n37 : cN s.1 b ≤ 37052) {row l : Nat} (hr : row < 12) (h1 : 1 ≤ l) (h2 : l ≤ 12) : itS s.1 b tW (j1 2 (pwO F R (nI P) row l)) := by
  rw [pwO_n h1 h2]
  have := lsR_le F R l row
  exact itS_2 (Or.inl rfl) rfl (by omega) n37 trivial
theorem cnC_G (n37 : cN s.1 b ≤ 37052) {n c : Nat} (ho : opC s.1 (n + 1) = nI c) (hc : c < cN s.1 b) (hv : s.1.2.2.2.1 n = 0 ∨ s.1.2.2.2.1 n = 1 ∨ s.1.2.2.2.1 n = 2 ∨ s.1.2.2.2.1 n = 3) (hw : ¬ s.1.2.2.2.1 n < 2 → ∃ e, s.1.2.2.2.2 n = nI e ∧ e < cN s.1 b) : itA s.1 b tW (cnC s.1 n) ∧ ∀ h, hT (cnC s.1 n) (h + 1) (h + 1) := by
  have i1 : itS s.1 b tW (j1 1 (opC s.1 (n + 1))) := itS_1 rfl ho hc
  have i7 : itS s.1 b tW (j1 7 10) := itS_7 rfl (by decide)
  have i8 : itS s.1 b tW (j1 8 2) := itS_n (o := 8) rfl (by decide)
  unfold cnC
  rcases hv with v | v | v | v
  · rw [v, if_neg (by decide), if_neg (by decide), if_pos (by decide), if_pos (by decide)]
    exact ⟨itA.nil.app ((itA.i i1 rfl).app (itA.nil.app (itA.nil.app ((itA.i i7 rfl).app itA.nil)))), fun h => hT.nil.app ((hT.i (hS_1 (h + 1))).app (hT.nil.app (hT.nil.app ((hT.i (hS_7 h)).app hT.nil))))⟩
  · rw [v, if_neg (by decide), if_neg (by decide), if_neg (by decide), if_pos (by decide)]
    exact ⟨itA.nil.app ((itA.i i1 rfl).app (itA.nil.app ((itA.i i8 rfl).app ((itA.i i7 rfl).app itA.nil)))), fun h => hT.nil.app ((hT.i (hS_1 (h + 1))).app (hT.nil.app ((hT.i (hS_8 (h + 1))).app ((hT.i (hS_7 h)).app hT.nil))))⟩
  · obtain ⟨e, e1, e2⟩ := hw (by rw [v]; decide)
    have iw : itS s.1 b tW (j1 1 (s.1.2.2.2.2 n)) := itS_1 rfl e1 e2
    have is : itS s.1 b tW (j1 2 (s.1.2.2.2.2 n)) := itS_2 (Or.inl rfl) e1 e2 n37 trivial
    rw [v, if_neg (by decide), if_pos (by decide), if_neg (by decide), if_neg (by decide)]
    exact ⟨itA.nil.app ((itA.i i1 rfl).app ((itA.i iw rfl).app ((itA.i i8 rfl).app ((itA.i i7 rfl).app (itA.co i7 rfl (itA.co i1 rfl (itA.i is rfl))))))), fun h => hT.nil.app ((hT.i (hS_1 (h + 1))).app ((hT.i (hS_1 (h + 2))).app ((hT.i (hS_8 (h + 2))).app ((hT.i (hS_7 (h + 1))).app (hT.co (hS_7 h) (hT.co (hS_1 (h + 1)) (hT.i (hS_2 (h + 1)))))))))⟩
  · obtain ⟨e, e1, e2⟩ := hw (by rw [v]; decide)
    have iw : itS s.1 b tW (j1 1 (s.1.2.2.2.2 n)) := itS_1 rfl e1 e2
    have is : itS s.1 b tW (j1 2 (s.1.2.2.2.2 n)) := itS_2 (Or.inl rfl) e1 e2 n37 trivial
    rw [v, if_pos (by decide), if_neg (by decide), if_neg (by decide), if_neg (by decide)]
    exact ⟨(itA.i iw rfl).app ((itA.i i1 rfl).app (itA.nil.app ((itA.i i8 rfl).app ((itA.i i7 rfl).app (itA.co i7 rfl (itA.co i1 rfl (itA.i is rfl))))))), fun h => (hT.i (hS_1 (h + 1))).app ((hT.i (hS_1 (h + 2))).app (hT.nil.app ((hT.i (hS_8 (h + 2))).app ((hT.i (hS_7 (h + 1))).app (hT.co (hS_7 h) (hT.co (hS_1 (h + 1)) (hT.i (hS_2 (h + 1)))))))))⟩
theorem coC_G (hP : P + 156 = cN s.1 b) (n37 : cN s.1 b ≤ 37052) {row n c : Nat} (hr : row < 12) (h1 : 1 ≤ cols) (h2 : cols ≤ 12) (ho : opC s.1 (n + 1) = nI c) (hc : c < cN s.1 b) : sG s.1 b tW (coC F s.1 R (nI P) cols row n) := by
  have i1 : itS s.1 b tW (j1 1 (opC s.1 (n + 1))) := itS_1 rfl ho hc
  have is : itS s.1 b tW (j1 2 (opC s.1 (n + 1))) := itS_2 (Or.inl rfl) ho hc n37 trivial
  have fd := fdC_G (F := F) (R := R) hP hr h1 h2
  have n8 : itA s.1 b tW (if s.1.2.2.2.1 n = 1 ∨ s.1.2.2.2.1 n = 3 then [j1 8 2] else []) ∧ ∀ h, hT (if s.1.2.2.2.1 n = 1 ∨ s.1.2.2.2.1 n = 3 then [j1 8 2] else []) (h + 1) (h + 1) := by
    split
    · exact ⟨itA.i (itS_n (o := 8) rfl (by decide)) rfl, fun h => hT.i (hS_8 h)⟩
    · exact ⟨itA.nil, fun h => hT.nil⟩
  unfold coC
  by_cases q : s.1.2.2.2.1 n < 2
  · rw [if_pos q, if_pos q]
    exact ⟨itA.nil.app (fd.1.app (n8.1.app (itA.nil.app (itA.i is rfl)))), hT.nil.app ((fd.2 0).app ((n8.2 0).app (hT.nil.app (hT.i (hS_2 0)))))⟩
  · rw [if_neg q, if_neg q]
    have i7 : itS s.1 b tW (j1 7 (if s.1.2.2.2.1 n = 2 then 11 else 10)) := itS_7 rfl (by
      show 0 ≤ (if s.1.2.2.2.1 n = 2 then (11 : Int32) else 10) ∧ (if s.1.2.2.2.1 n = 2 then (11 : Int32) else 10) ≤ 24
      split <;> decide)
    exact ⟨(itA.i i1 rfl).app (fd.1.app (n8.1.app ((itA.i i7 rfl).app (itA.i is rfl)))), (hT.i (hS_1 0)).app ((fd.2 1).app ((n8.2 1).app ((hT.i (hS_7 0)).app (hT.i (hS_2 0)))))⟩
theorem gpR_G (hP : P + 156 = cN s.1 b) (n37 : cN s.1 b ≤ 37052) (hR : RQq F s b R cols) {l a : Nat} (h1 : 1 ≤ l) (h2 : l ≤ cols) : ∀ (k row fed : Nat), row + k ≤ R.length → itA s.1 b tW (gpR F s.1 R (nI P) l a k row fed) ∧ hT (gpR F s.1 R (nI P) l a k row fed) (if fed = 0 then 0 else 1) 1
  | 0, row, fed, _ => by
    unfold gpR
    by_cases c : fed = 0
    · rw [if_pos c, if_pos c]
      exact ⟨itA.i (itS_n (o := 0) rfl (by decide)) rfl, hT.i (hS_0 0)⟩
    · rw [if_neg c, if_neg c]
      exact ⟨itA.nil, hT.nil⟩
  | k + 1, row, fed, hk => by
    obtain ⟨c1, c2⟩ := hR.2.2.2 row (by omega) l h1 h2
    have b12 := hR.1
    have c12 := hR.2.2.1
    have nx := fun fed => gpR_G hP n37 hR h1 h2 (l := l) (a := a) k (row + 1) fed (by omega)
    unfold gpR
    by_cases ql : lsR F R l row = a
    · rw [if_pos ql]
      by_cases q27 : kK F (clR F R row l) = 27
      · rw [if_pos q27]
        exact nx fed
      · rw [if_neg q27]
        have fd := fdC_G (F := F) (R := R) (row := row) hP (by omega) h1 (by omega)
        have cn : itA s.1 b tW (if kK F (clR F R row l) = 25 then cnC s.1 (clR F R row l) else []) ∧ ∀ h, hT (if kK F (clR F R row l) = 25 then cnC s.1 (clR F R row l) else []) (h + 1) (h + 1) := by
          split
          · rename_i k25
            obtain ⟨c, o1, o2⟩ := c1 (Or.inl k25)
            obtain ⟨o3, o4⟩ := c2 k25
            exact cnC_G n37 o1 o2 o3 o4
          · exact ⟨itA.nil, fun h => hT.nil⟩
        have n1 := nx (fed + 1)
        rw [if_neg (Nat.succ_ne_zero fed)] at n1
        by_cases c : fed = 0
        · rw [if_pos c, if_pos c]
          exact ⟨fd.1.app (cn.1.app (itA.nil.app n1.1)), (fd.2 0).app ((cn.2 0).app (hT.nil.app n1.2))⟩
        · rw [if_neg c, if_neg c]
          exact ⟨fd.1.app (cn.1.app ((itA.i (itS_7 rfl (by decide)) rfl).app n1.1)), (fd.2 1).app ((cn.2 1).app ((hT.i (hS_7 0)).app n1.2))⟩
    · rw [if_neg ql]
      by_cases c : fed = 0
      · rw [if_pos c, if_pos c]
        exact ⟨itA.i (itS_n (o := 0) rfl (by decide)) rfl, hT.i (hS_0 0)⟩
      · rw [if_neg c, if_neg c]
        exact ⟨itA.nil, hT.nil⟩
theorem gpL_G (hP : P + 156 = cN s.1 b) (n37 : cN s.1 b ≤ 37052) (hR : RQq F s b R cols) {l : Nat} (h1 : 1 ≤ l) (h2 : l ≤ cols) : ∀ (k row : Nat), row + k ≤ R.length → sG s.1 b tW (gpL F s.1 R (nI P) cols l k row)
  | 0, row, _ => sG.nil
  | k + 1, row, hk => by
    have b12 := hR.1
    have c12 := hR.2.2.1
    unfold gpL
    refine sG.app ?_ (gpL_G hP n37 hR h1 h2 k (row + 1) (by omega))
    split
    · have g := gpR_G hP n37 hR h1 h2 (a := row) (R.length - row) row 0 (by omega)
      rw [if_pos rfl] at g
      exact ⟨g.1.app (itA.i (pwS_G hP n37 (by omega) h1 (by omega)) rfl), g.2.app (hT.i (hS_2 0))⟩
    · exact sG.nil
theorem lnC_G (hP : P + 156 = cN s.1 b) (n37 : cN s.1 b ≤ 37052) (hR : RQq F s b R cols) : ∀ (k l : Nat), 1 ≤ l → l + k ≤ cols + 1 → sG s.1 b tW (lnC F s.1 R (nI P) cols k l)
  | 0, l, _, _ => sG.nil
  | k + 1, l, h1, h2 => (gpL_G hP n37 hR h1 (by omega) _ _ (by omega)).app (lnC_G hP n37 hR k (l + 1) (by omega) (by omega))
theorem coL_G (hP : P + 156 = cN s.1 b) (n37 : cN s.1 b ≤ 37052) (hR : RQq F s b R cols) : ∀ (k row : Nat), row + k ≤ R.length → sG s.1 b tW (coL F s.1 R (nI P) cols k row)
  | 0, row, _ => sG.nil
  | k + 1, row, hk => by
    have b12 := hR.1
    have c12 := hR.2.2.1
    unfold coL
    refine sG.app ?_ (coL_G hP n37 hR k (row + 1) (by omega))
    split
    · rename_i k28
      obtain ⟨c, o1, o2⟩ := (hR.2.2.2 row (by omega) cols hR.2.1 (Nat.le_refl _)).1 (Or.inr k28)
      exact coC_G hP n37 (by omega) hR.2.1 c12 o1 o2
    · exact sG.nil
end LD
theorem laC_G {m0 : yM} {T : Nat} {F : List ND} {s : SU} {b P : Nat} (h : UQ m0 T F s b) (hP : P + 156 = cN s.1 b) : ∀ L : List Nat, (∀ n, n ∈ L → (∃ N, TW m0 T F N n) ∧ kK F n = 23 ∧ nB s b ≤ n ∧ n + szF F n ≤ nB s b + szF F (nB s b)) → sG s.1 b tW (laC F s.1 (nI P) L)
  | [], _ => sG.nil
  | n :: L, hL => by
    obtain ⟨⟨N, hW⟩, k, h1, h2⟩ := hL n List.mem_cons_self
    have hR := RQ_of h hW k h1 h2
    show sG s.1 b tW (rgC F s.1 (nI P) n ++ laC F s.1 (nI P) L)
    unfold rgC
    exact ((lnC_G hP h.n37 hR _ 1 (by omega) (by omega)).app (coL_G hP h.n37 hR _ 0 (by omega))).app (laC_G h hP L (fun x hx => hL x (List.mem_cons_of_mem _ hx)))
theorem bgC_G {m0 : yM} {T : Nat} {F : List ND} {s : SU} {b : Nat} (h : UQ m0 T F s b) : sG s.1 b tW (bgC s.1 b) := by
  have hS := h.hs
  have n37 := h.n37
  unfold bgC
  by_cases k : (s.1.1.getD b dBK).1 = 1
  · rw [if_pos k]
    have bl : b + 1 < s.1.1.length := by
      have l := h.hp.l
      have := h.2.2.1
      rcases Nat.lt_or_ge (b + 1) s.1.1.length with w | w
      · exact w
      · rw [show b = s.1.1.length - 1 by omega, l.2.2] at k
        exact absurd k (by decide)
    have f1 := h.f1 bl k
    have fm := hS.fm b h.2.2.1
    have bv : ∀ kq v, (s.1.1.getD b dBK).2.2.2.2 ≤ v → v + kq ≤ endV s.1 b → sG s.1 b tW (bgV s.1 kq v) := by
      intro kq
      induction kq with
      | zero => intro v _ _; exact sG.nil
      | succ kq ih =>
        intro v h1 h2
        show sG s.1 b tW ((if (vD s.1 v).1 = 0 then [j1 0 (vD s.1 v).2.2.1, j1 2 (vD s.1 v).2.2.2] else []) ++ bgV s.1 kq (v + 1))
        refine sG.app ?_ (ih (v + 1) (by omega) (by omega))
        split
        · obtain ⟨-, -, -, -, -, -, -, -, -, -, -, vo, -⟩ := h.hp.1.v (b := b) (v := v) h.2.2.1 h1 (by omega)
          have hi : vIn s.1 b v := ⟨h1, by omega, vo⟩
          obtain ⟨c, z, a1, a2, a3, a4, a5, a6, a7⟩ := h.v hi
          obtain ⟨-, y, hy⟩ := (vOk_i s.1 v).mp vo
          obtain ⟨p1, p2, -⟩ := hS.2.2.1.1.2.2.2.2.2.1 v y hy
          have z1 : 1 ≤ z := by
            have fr : frm s.1 v = nI (kK F y.2.1) := by
              unfold frm
              rw [vD_s hy]
              rcases hS.ks p1 with w | ⟨w, w'⟩
              · exact w
              · omega
            rcases p2 with w | w | w
            · rw [w] at fr
              have := a5 fr
              omega
            · rw [w] at fr
              have e := a6 fr
              obtain ⟨-, -, z', z1, z2, z3⟩ := hS.2.2.1.1.2.2.2.2.2.2.1.1 y.2.1 p1 w p1 (by simp)
              have e : s.1.2.2.2.1 (vD s.1 v).2.1 = nI z := e
              rw [vD_s hy, z1] at e
              have := (nI_eq (by omega) (by omega)).mp e
              omega
            · exact absurd w (h.2.2.2.2.2.1 b v y h.2.2.1 k h1 (by omega) hy)
          exact ⟨itA.co (itS_n (o := 0) rfl (by decide)) rfl (itA.i (itS_2 (Or.inl rfl) a1 (by omega) n37 trivial) rfl), hT.co (hS_0 0) (hT.i (hS_2 0))⟩
        · exact sG.nil
    refine sG.app ⟨itA.co (itS_n (o := 0) rfl (by decide)) rfl (itA.i (itS_2 (Or.inl rfl) (c := 0) rfl (by omega) n37 trivial) rfl), hT.co (hS_0 0) (hT.i (hS_2 0))⟩ (bv _ _ (Nat.le_refl _) (by omega))
  · rw [if_neg k]
    exact sG.nil
theorem unT_G {m0 : yM} {T : Nat} {F : List ND} {s : SU} {b : Nat} (h : UQ m0 T F s b) {c : Nat} (hc : c ∈ kids F (s.1.1.getD b dBK).2.1) (p : Nat) : sG s.1 b tW (unT F s.1 186 ((s.1.1.getD b dBK).2.2.2.1 - 156) c p) := by
  have hS := h.hs
  have hz := h.1.1.1
  obtain ⟨nl, kb⟩ := hz.2.2.2.1 b h.2.2.1
  have hW := HZ.w hz nl
  have hWc := hW.2.2.2.2.2.2 c hc
  have z := hW.kin hc
  have z : nB s b < c ∧ c < nB s b + szF F (nB s b) ∧ c + szF F c ≤ nB s b + szF F (nB s b) ∧ c < F.length ∧ 0 < szF F c := z
  unfold unT
  by_cases k11 : kK F c = 11
  · rw [if_pos k11]
    exact (wB_G h 186 0 c p hWc (by omega) (by omega)).mo (fun _ _ => trivial)
  · rw [if_neg k11]
    by_cases k22 : kK F c = 22
    · rw [if_pos k22]
      obtain ⟨c0, d, f, a1, a2, a3, a4, a5, a6, a7, a8⟩ := h.2.2.2.2.1 b h.2.2.1 (by simp)
      have s22 : s.1.2.2.1 c = 22 := by
        rcases hS.ks z.2.2.2.1 with w | ⟨w, w'⟩
        · rw [w, k22]; rfl
        · omega
      have d156 := a8 ⟨c, by omega, z.2.1, s22⟩
      have ed : cN s.1 b = d := by unfold cN; rw [a1, nI_clamp (by omega)]
      have a1 : (s.1.1.getD b dBK).2.2.2.1 = nI d := a1
      rw [a1, show (156 : Int32) = nI 156 from rfl, nI_sub d156]
      refine laC_G h (by omega) _ (fun n hn => ?_)
      have okc := hWc.ok
      rw [k22] at okc
      have zn := hWc.kin hn
      exact ⟨hS.1.1 n zn.2.2.2.1, hWc.mk okc.2 hn, by omega, by omega⟩
    · rw [if_neg k22]
      exact sG.nil
theorem unT_T {m0 : yM} {T : Nat} {F : List ND} {s : SU} {b : Nat} (h : UQ m0 T F s b) {c : Nat} (hc : c ∈ kids F (s.1.1.getD b dBK).2.1) (p : Nat) : hT (unT F s.1 186 ((s.1.1.getD b dBK).2.2.2.1 - 156) c p) 0 0 := (unT_G h hc p).2
theorem unC_G {m0 : yM} {T : Nat} {F : List ND} {s : SU} {b : Nat} (h : UQ m0 T F s b) : sG s.1 b tW (unC F s.1 186 b) := by
  unfold unC
  exact (bgC_G h).app (seqC_G _ _ (fun c hc p => unT_G h hc p))
