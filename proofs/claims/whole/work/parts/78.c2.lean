/-! THE WRITERS: how long the code can be, rungs and all -/
theorem ifl {c : Prop} [Decidable c] {a b : List IT} {n : Nat} (ha : a.length ≤ n) (hb : b.length ≤ n) : (if c then a else b).length ≤ n := by
  split
  · exact ha
  · exact hb
theorem cnC_l (σ : RS) (n : Nat) : (cnC σ n).length ≤ 8 := by
  unfold cnC
  rw [List.length_append, List.length_append, List.length_append, List.length_append, List.length_append, List.length_singleton, List.length_singleton]
  have a : (if σ.2.2.2.1 n = 3 then [j1 1 (σ.2.2.2.2 n)] else []).length ≤ 1 := ifl (Nat.le_refl _) (Nat.zero_le _)
  have b : (if σ.2.2.2.1 n = 2 then [j1 1 (σ.2.2.2.2 n)] else []).length ≤ 1 := ifl (Nat.le_refl _) (Nat.zero_le _)
  have c : (if σ.2.2.2.1 n = 0 then [] else [j1 8 2]).length ≤ 1 := ifl (Nat.zero_le _) (Nat.le_refl _)
  have d : (if σ.2.2.2.1 n < 2 then [] else [j1 7 10, j1 1 (opC σ (n + 1)), j1 2 (σ.2.2.2.2 n)]).length ≤ 3 := ifl (Nat.zero_le _) (Nat.le_refl _)
  omega
theorem coC_l (F : List ND) (σ : RS) (R : List Nat) (pw : Int32) (cols row n : Nat) : (coC F σ R pw cols row n).length ≤ 5 := by
  unfold coC
  rw [List.length_append, List.length_append, List.length_append, List.length_append, List.length_singleton, List.length_singleton]
  have a : (if σ.2.2.2.1 n < 2 then [] else [j1 1 (opC σ (n + 1))]).length ≤ 1 := ifl (Nat.zero_le _) (Nat.le_refl _)
  have b : (if σ.2.2.2.1 n = 1 ∨ σ.2.2.2.1 n = 3 then [j1 8 2] else []).length ≤ 1 := ifl (Nat.le_refl _) (Nat.zero_le _)
  have c : (if σ.2.2.2.1 n < 2 then [] else [j1 7 (if σ.2.2.2.1 n = 2 then 11 else 10)]).length ≤ 1 := ifl (Nat.zero_le _) (Nat.le_refl _)
  omega
theorem gpR_l (F : List ND) (σ : RS) (R : List Nat) (pw : Int32) (l a : Nat) : ∀ k row fed, (gpR F σ R pw l a k row fed).length ≤ 10 * k + 1
  | 0, row, fed => by
    unfold gpR
    exact ifl (Nat.le_refl _) (Nat.zero_le _)
  | k + 1, row, fed => by
    unfold gpR
    have r1 := gpR_l F σ R pw l a k (row + 1) fed
    have r2 := gpR_l F σ R pw l a k (row + 1) (fed + 1)
    refine ifl (ifl (by omega) ?_) (ifl (by show 1 ≤ _; omega) (Nat.zero_le _))
    rw [List.length_append, List.length_append, List.length_append, List.length_singleton]
    have x : (if kK F (clR F R row l) = 25 then cnC σ (clR F R row l) else []).length ≤ 8 := ifl (cnC_l σ _) (Nat.zero_le _)
    have y : (if fed = 0 then [] else [j1 7 11]).length ≤ 1 := ifl (Nat.zero_le _) (Nat.le_refl _)
    omega
theorem gpC_l (F : List ND) (σ : RS) {R : List Nat} (hR : R.length ≤ 12) (pw : Int32) (l a : Nat) : (gpC F σ R pw l a).length ≤ 122 := by
  unfold gpC
  have := gpR_l F σ R pw l a (R.length - a) a 0
  rw [List.length_append, List.length_singleton]
  omega
theorem gpL_l (F : List ND) (σ : RS) {R : List Nat} (hR : R.length ≤ 12) (pw : Int32) (cols l : Nat) : ∀ k row, (gpL F σ R pw cols l k row).length ≤ 122 * k
  | 0, row => Nat.le_refl _
  | k + 1, row => by
    unfold gpL
    have := gpL_l F σ hR pw cols l k (row + 1)
    rw [List.length_append]
    have x : (if lsR F R l row = row ∧ ¬ (l = cols ∧ kK F (clR F R row l) = 28) then gpC F σ R pw l row else []).length ≤ 122 := ifl (gpC_l F σ hR pw l row) (Nat.zero_le _)
    omega
theorem lnC_l (F : List ND) (σ : RS) {R : List Nat} (hR : R.length ≤ 12) (pw : Int32) (cols : Nat) : ∀ k l, (lnC F σ R pw cols k l).length ≤ 1464 * k
  | 0, l => Nat.le_refl _
  | k + 1, l => by
    unfold lnC
    have := lnC_l F σ hR pw cols k (l + 1)
    have := gpL_l F σ hR pw cols l R.length 0
    rw [List.length_append]
    omega
theorem coL_l (F : List ND) (σ : RS) (R : List Nat) (pw : Int32) (cols : Nat) : ∀ k row, (coL F σ R pw cols k row).length ≤ 5 * k
  | 0, row => Nat.le_refl _
  | k + 1, row => by
    unfold coL
    have := coL_l F σ R pw cols k (row + 1)
    rw [List.length_append]
    have x : (if kK F (clR F R row cols) = 28 then coC F σ R pw cols row (clR F R row cols) else []).length ≤ 5 := ifl (coC_l F σ R pw cols row _) (Nat.zero_le _)
    omega
theorem laC_l {F : List ND} {σ : RS} (pw : Int32) : ∀ (L : List Nat), (∀ n, n ∈ L → 0 < szF F n ∧ (kids F n).length ≤ 12 ∧ (cel F (n + 1)).length ≤ 12) → (laC F σ pw L).length ≤ (L.map (fun n => 20000 * szF F n)).sum
  | [], _ => Nat.le_refl _
  | n :: L, h => by
    show (rgC F σ pw n ++ laC F σ pw L).length ≤ _
    have a := laC_l (σ := σ) pw L (fun x hx => h x (List.mem_cons_of_mem _ hx))
    obtain ⟨b, c, d⟩ := h n List.mem_cons_self
    have e := lnC_l F σ c pw (cel F (n + 1)).length (cel F (n + 1)).length 1
    have f := coL_l F σ (kids F n) pw (cel F (n + 1)).length (kids F n).length 0
    rw [List.length_append, List.map_cons, List.sum_cons]
    unfold rgC
    rw [List.length_append]
    omega
theorem bgV_l (σ : RS) : ∀ k v, (bgV σ k v).length ≤ 2 * k
  | 0, v => Nat.le_refl _
  | k + 1, v => by
    unfold bgV
    have := bgV_l σ k (v + 1)
    rw [List.length_append]
    have x : (if (vD σ v).1 = 0 then [j1 0 (vD σ v).2.2.1, j1 2 (vD σ v).2.2.2] else []).length ≤ 2 := ifl (Nat.le_refl _) (Nat.zero_le _)
    omega
theorem unC_l {m0 : yM} {T : Nat} {J : JV} {s : SU} (hz : HZ m0 T J.2.2.1 s) (hV : s.1.2.1.length ≤ 4096) {b : Nat} (hb : b < s.1.1.length) : (unC J.2.2.1 s.1 186 b).length ≤ 8194 + 20000 * szF J.2.2.1 (nB s b) := by
  have hS := hz.1
  obtain ⟨nl, kb⟩ := hz.2.2.2.1 b hb
  have hW := HZ.w hz nl
  have hs : ((kids J.2.2.1 (nB s b)).map (szF J.2.2.1)).sum + 1 = szF J.2.2.1 (nB s b) := hW.sum
  have bl : (bgC s.1 b).length ≤ 8194 := by
    unfold bgC
    refine ifl ?_ (Nat.zero_le _)
    have x := bgV_l s.1 (endV s.1 b - (s.1.1.getD b dBK).2.2.2.2) (s.1.1.getD b dBK).2.2.2.2
    have y := hS.fm b hb
    rw [List.length_append]
    show 2 + _ ≤ 8194
    omega
  have sl := seqC_l (f := unT J.2.2.1 s.1 186 ((s.1.1.getD b dBK).2.2.2.1 - 156)) (g := fun c => 20000 * szF J.2.2.1 c) (kids J.2.2.1 (nB s b)) (bgC s.1 b).length (fun c hc p => by
    have z := hW.kin hc
    have hWc := hW.2.2.2.2.2.2 c hc
    unfold unT
    split
    · have := wB_l hS hV 186 0 c p hWc
      show _ ≤ 20000 * szF J.2.2.1 c
      omega
    split
    · rename_i k22
      have okc := hWc.ok
      rw [k22] at okc
      have la := laC_l (F := J.2.2.1) (σ := s.1) ((s.1.1.getD b dBK).2.2.2.1 - 156) (kids J.2.2.1 c) (fun n hn => by
        have zn := hWc.kin hn
        obtain ⟨M, hM⟩ := hS.1.1 n zn.2.2.2.1
        have rg := RG_of hS hz.2.1 hM (hWc.mk okc.2 hn)
        exact ⟨zn.2.2.2.2, rg.1, rg.2.2.1⟩)
      rw [sum_k] at la
      have hsc := hWc.sum
      show _ ≤ 20000 * szF J.2.2.1 c
      omega
    · exact Nat.zero_le _)
  rw [sum_k] at sl
  unfold unC
  rw [List.length_append]
  have sl : (seqC (unT J.2.2.1 s.1 186 ((s.1.1.getD b dBK).2.2.2.1 - 156)) (kids J.2.2.1 (s.1.1.getD b dBK).2.1) (bgC s.1 b).length).length ≤ 20000 * ((kids J.2.2.1 (nB s b)).map (szF J.2.2.1)).sum := sl
  omega
/-- all code is far below what is counted -/
theorem allC_l {m0 : yM} {T : Nat} {J : JV} {s : SU} (hz : HZ m0 T J.2.2.1 s) (hV : s.1.2.1.length ≤ 4096) (h21 : P21 J.2.2.1 [] J.2.2.1.length s) (h16 : s.1.1.length ≤ 16) : (allC J.2.2.1 s.1 186 s.1.1.length).length + 16 < 2 ^ 30 := by
  obtain ⟨-, a2, a3⟩ := h21
  have hF := hz.1.1.2.2.2.1
  have lp : ∀ k, k + 1 ≤ s.1.1.length → (allC J.2.2.1 s.1 186 (k + 1)).length ≤ 8194 * (k + 1) + 20000 * (nB s k + szF J.2.2.1 (nB s k)) := by
    intro k
    induction k with
    | zero =>
      intro hk
      have := unC_l hz hV (b := 0) (by omega)
      show ([] ++ unC J.2.2.1 s.1 186 0).length ≤ _
      rw [List.nil_append]
      omega
    | succ k ih =>
      intro hk
      have := unC_l hz hV (b := k + 1) (by omega)
      have a := ih (by omega)
      have b := a2 k (by omega)
      show (allC J.2.2.1 s.1 186 (k + 1) ++ unC J.2.2.1 s.1 186 (k + 1)).length ≤ _
      rw [List.length_append]
      omega
  cases hn : s.1.1.length with
  | zero =>
    show (0 : Nat) + 16 < 2 ^ 30
    omega
  | succ k =>
    have a := lp k (by omega)
    have b := a3 (by omega)
    rw [hn, Nat.add_sub_cancel] at b
    rcases b with w | w
    · omega
    · cases w
