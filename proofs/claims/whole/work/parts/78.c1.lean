/-! THE WRITERS: how long the code can be, statements and units -/
theorem seqC_l {f : Nat → Nat → List IT} {g : Nat → Nat} : ∀ (L : List Nat) (p : Nat), (∀ c, c ∈ L → ∀ p, (f c p).length ≤ g c) → (seqC f L p).length ≤ (L.map g).sum
  | [], p, _ => Nat.le_refl _
  | c :: L, p, h => by
    show (f c p ++ seqC f L (p + (f c p).length)).length ≤ _
    have a := seqC_l L (p + (f c p).length) (fun x hx => h x (List.mem_cons_of_mem _ hx))
    have b := h c List.mem_cons_self p
    rw [List.length_append, List.map_cons, List.sum_cons]
    omega
theorem wy_l (n : Nat) (bd : Nat → Nat → List IT) (b : Nat) (mo : Bool) (p : Nat) : (wy n bd b mo p).length ≤ (bd b (p + 1)).length + 2 := by
  unfold wy
  rw [List.length_cons, List.length_append]
  split
  · rw [List.length_singleton]; omega
  · rw [List.length_nil]; omega
theorem wIf_l {n : Nat} {e : Nat → List IT} {bd : Nat → Nat → List IT} {g : Nat → Nat} : ∀ (k : Nat) (L : List Nat) (p : Nat), L.length ≤ k → (∀ c, c ∈ L → (e c).length + 1 ≤ g c ∧ ∀ p, (bd c p).length + 1 ≤ g c) → (wIf n e bd L p).length ≤ (L.map g).sum := by
  intro k
  induction k with
  | zero =>
    intro L p hk _
    rw [List.length_eq_zero_iff.mp (show L.length = 0 by omega)]
    exact Nat.le_refl _
  | succ k ih =>
    intro L p hk hb
    match L, hk, hb with
    | [], _, _ => exact Nat.le_refl _
    | [b], _, hb =>
      have := (hb b List.mem_cons_self).2 p
      show (bd b p).length ≤ g b + 0
      omega
    | c :: b :: L, hk, hb =>
      have es : wIf n e bd (c :: b :: L) p = e c ++ (wy n bd b (!L.isEmpty) (p + (e c).length) ++ wIf n e bd L (p + (e c).length + (wy n bd b (!L.isEmpty) (p + (e c).length)).length)) := rfl
      rw [es, List.length_append, List.length_append, List.map_cons, List.sum_cons, List.map_cons, List.sum_cons]
      have a := (hb c List.mem_cons_self).1
      have b1 := (hb b (List.mem_cons_of_mem _ List.mem_cons_self)).2 (p + (e c).length + 1)
      have w := wy_l n bd b (!L.isEmpty) (p + (e c).length)
      have r := ih L (p + (e c).length + (wy n bd b (!L.isEmpty) (p + (e c).length)).length) (by simp at hk; omega) (fun z hz => hb z (List.mem_cons_of_mem _ (List.mem_cons_of_mem _ hz)))
      omega
theorem rgL_l (F : List ND) (σ : RS) (own : Int32) : ∀ (L : List Nat) (j : Nat), (rgL F σ own L j).length ≤ 8 * L.length
  | [], j => Nat.le_refl _
  | r :: L, j => by
    unfold rgL
    have := rgL_l F σ own L (j + 1)
    show _ ≤ 8 * (L.length + 1)
    rw [List.length_append, List.length_append, List.length_append]
    have a : (if szF F r = 2 then [j1 7 13] else [j1 7 18, j1 1 own, j1 0 (σ.2.2.2.1 (r + 2)), j1 7 17, j1 7 10]).length ≤ 5 := by
      split
      · show 1 ≤ 5; omega
      · exact Nat.le_refl _
    have b : (if 1 ≤ j then [j1 7 11] else []).length ≤ 1 := by
      split
      · exact Nat.le_refl _
      · exact Nat.zero_le _
    have c : [j1 1 own, j1 0 (σ.2.2.2.1 (r + 1))].length = 2 := rfl
    omega
theorem wCs_l {F : List ND} {σ : RS} {n : Nat} {bd : Nat → Nat → List IT} {g : Nat → Nat} : ∀ (L : List Nat) (p : Nat), (∀ c, c ∈ L → ∀ p, (σ.2.2.1 c = 11 → (bd c p).length ≤ g c) ∧ (¬ σ.2.2.1 c = 11 → 8 * (rgK F c).length + (bd (lsK F c) p).length + 2 ≤ g c)) → (wCs F σ n bd L p).length ≤ (L.map g).sum
  | [], p, _ => Nat.le_refl _
  | c :: L, p, hb => by
    have hL := fun x hx => hb x (List.mem_cons_of_mem c hx)
    have hc := hb c List.mem_cons_self
    unfold wCs
    rw [List.map_cons, List.sum_cons]
    by_cases q : σ.2.2.1 c = 11
    · rw [if_pos q, List.length_append]
      have a := (hc p).1 q
      have b := wCs_l L (p + (bd c p).length) hL (n := n)
      omega
    · rw [if_neg q, List.length_append, List.length_append]
      have r := rgL_l F σ (σ.2.2.2.2 n) (rgK F c) 0
      have a := (hc (p + (rgL F σ (σ.2.2.2.2 n) (rgK F c) 0).length + 1)).2 q
      have w := wy_l n bd (lsK F c) (!L.isEmpty) (p + (rgL F σ (σ.2.2.2.2 n) (rgK F c) 0).length)
      have b := wCs_l L (p + (rgL F σ (σ.2.2.2.2 n) (rgK F c) 0).length + (wy n bd (lsK F c) (!L.isEmpty) (p + (rgL F σ (σ.2.2.2.2 n) (rgK F c) 0).length)).length) hL (n := n)
      omega
theorem wIv_l {F : List ND} {σ : RS} {e : Nat → List IT} {g : Nat → Nat} : ∀ (L : List Nat), (∀ c, c ∈ L → (e (c + 1)).length + 1 ≤ g c) → (wIv F σ e L).length ≤ (L.map g).sum
  | [], _ => Nat.le_refl _
  | c :: L, h => by
    show (e (c + 1) ++ ([j1 2 (σ.2.2.2.1 c)] ++ wIv F σ e L)).length ≤ _
    have := wIv_l L (fun x hx => h x (List.mem_cons_of_mem _ hx)) (F := F) (σ := σ)
    have := h c List.mem_cons_self
    rw [List.length_append, List.length_append, List.length_singleton, List.map_cons, List.sum_cons]
    omega
theorem len_le_sum {F : List ND} : ∀ (L : List Nat), (∀ c, c ∈ L → 0 < szF F c) → L.length ≤ (L.map (szF F)).sum
  | [], _ => Nat.le_refl _
  | c :: L, h => by
    have := len_le_sum L (fun x hx => h x (List.mem_cons_of_mem _ hx))
    have := h c List.mem_cons_self
    rw [List.length_cons, List.map_cons, List.sum_cons]
    omega
theorem wB_l {m0 : yM} {T : Nat} {J : JV} {s : SU} (hS : HS m0 T J.2.2.1 s) (hV : s.1.2.1.length ≤ 4096) : ∀ (N ℓ n p : Nat), TW m0 T J.2.2.1 N n → (wB J.2.2.1 s.1 N ℓ n p).length + 1 ≤ 20000 * szF J.2.2.1 n := by
  intro N
  induction N with
  | zero => intro ℓ n p h; exact absurd h (fun z => z)
  | succ N ih =>
    intro ℓ n p hW
    have hs := hW.sum
    have st : (wB J.2.2.1 s.1 (N + 1) ℓ n p).length ≤ ((kids J.2.2.1 n).map (fun c => 20000 * szF J.2.2.1 c)).sum := by
      refine seqC_l (kids J.2.2.1 n) p (fun c hc p => ?_)
      have z := hW.kin hc
      have hWc := hW.2.2.2.2.2.2 c hc
      have hsc := hWc.sum
      have k37 := hS.1.2.1 c z.2.2.2.1
      have kq : ∀ q, q < 30 → (s.1.2.2.1 c = nI q → kK J.2.2.1 c = q) := by
        intro q hq y
        rcases hS.ks z.2.2.2.1 with w | ⟨w, -⟩
        · rw [w] at y; exact (nI_eq (by omega) (by omega)).mp y
        · rw [w] at y
          have := (nI_eq (a := 30) (by omega) (by omega)).mp (show nI 30 = nI q from y)
          omega
      have inn : ∀ c', c < c' → c' < c + szF J.2.2.1 c → TW m0 T J.2.2.1 N c' := fun c' q1 q2 => by
        obtain ⟨M, hM1, hM2⟩ := TW.all N c hWc c' (by omega) q2
        exact hM2.le hM1
      have eL : ∀ c', c < c' → c' < c + szF J.2.2.1 c → (cE J.2.2.1 s.1 N c').length + 1 ≤ 20000 * szF J.2.2.1 c' := fun c' q1 q2 => cE_l hS hV N c' (inn c' q1 q2)
      have bL : ∀ ℓ' c', c < c' → c' < c + szF J.2.2.1 c → ∀ p, (wB J.2.2.1 s.1 N ℓ' c' p).length + 1 ≤ 20000 * szF J.2.2.1 c' := fun ℓ' c' q1 q2 p => ih ℓ' c' p (inn c' q1 q2)
      have all : ∀ L : List Nat, L = kids J.2.2.1 c → (L.map (fun c => 20000 * szF J.2.2.1 c)).sum = 20000 * (szF J.2.2.1 c - 1) := by
        intro L hL
        rw [sum_k, hL]
        congr 1
        omega
      have e20 : 20000 * szF J.2.2.1 c = 20000 * (szF J.2.2.1 c - 1) + 20000 := by omega
      have one : ∀ x, (([x] : List IT)).length = 1 := fun _ => rfl
      have all' := all _ rfl
      have okc := hWc.ok
      unfold wT
      by_cases c12 : s.1.2.2.1 c = 12
      · rw [if_pos c12]
        have kc := kq 12 (by omega) c12
        rw [kc] at okc
        obtain ⟨-, a, b, ha, hb', eks⟩ := okc
        obtain ⟨q1, q2, q3, q4, q5⟩ := hWc.k2 eks
        rw [q1, List.map_cons, List.sum_cons, List.map_cons, List.sum_cons] at all'
        have m1 : c + 1 ∈ kids J.2.2.1 c := by rw [q1]; exact List.mem_cons_self
        have m2 : c + 1 + szF J.2.2.1 (c + 1) ∈ kids J.2.2.1 c := by rw [q1]; exact List.mem_cons_of_mem _ List.mem_cons_self
        have z1 := hWc.kin m1
        have z2 := hWc.kin m2
        have y2 := eL _ z2.1 z2.2.1
        split
        · rename_i k32
          obtain ⟨M, hM⟩ := hS.1.1 (c + 1) z1.2.2.2.1
          have k32' : kK J.2.2.1 (c + 1) = 32 := by
            rcases hS.ks z1.2.2.2.1 with w | ⟨w, -⟩
            · rw [w] at k32; exact (nI_eq (b := 32) (by have := hS.1.2.1 _ z1.2.2.2.1; omega) (by omega)).mp k32
            · rw [w] at k32; exact absurd k32 (by decide)
          have ok1 := hM.ok
          rw [k32'] at ok1
          obtain ⟨-, a', ha', eks'⟩ := ok1
          obtain ⟨r1, r2, r3, r4⟩ := hM.k1 eks'
          have y1 := eL (c + 2) (by omega) (by omega)
          have r4 : c + 2 + szF J.2.2.1 (c + 2) = c + 1 + szF J.2.2.1 (c + 1) := r4
          rw [List.length_append, List.length_append, one]
          omega
        · rw [List.length_append, one]
          omega
      rw [if_neg c12]
      by_cases c13 : s.1.2.2.1 c = 13
      · rw [if_pos c13, List.length_append, one]
        have kc := kq 13 (by omega) c13
        rw [kc] at okc
        have := wIv_l (F := J.2.2.1) (σ := s.1) (e := cE J.2.2.1 s.1 N) (g := fun c => 20000 * szF J.2.2.1 c) (kids J.2.2.1 c) (fun x hx => by
          have zx := hWc.kin hx
          have k14 := hWc.mk okc.2 hx
          obtain ⟨M, hM⟩ := hS.1.1 x zx.2.2.2.1
          have okx := hM.ok
          rw [k14] at okx
          obtain ⟨-, a, ha, eks⟩ := okx
          obtain ⟨r1, r2, r3, r4⟩ := hM.k1 eks
          have mk' : x + 1 ∈ kids J.2.2.1 x := by rw [r1]; exact List.mem_cons_self
          have zk := hM.kin mk'
          have y1 := eL (x + 1) (by omega) (by omega)
          show _ ≤ 20000 * szF J.2.2.1 x
          omega)
        omega
      rw [if_neg c13]
      by_cases c15 : s.1.2.2.1 c = 15
      · rw [if_pos c15, res_len]
        have := wIf_l (n := c) (e := cE J.2.2.1 s.1 N) (bd := wB J.2.2.1 s.1 N ℓ) (g := fun c => 20000 * szF J.2.2.1 c) (kids J.2.2.1 c).length (kids J.2.2.1 c) p (Nat.le_refl _) (fun x hx => by
          have zx := hWc.kin hx
          exact ⟨eL x zx.1 zx.2.1, bL ℓ x zx.1 zx.2.1⟩)
        omega
      rw [if_neg c15]
      by_cases c16 : s.1.2.2.1 c = 16
      · rw [if_pos c16, res_len, List.length_append, List.length_append, one]
        have kc := kq 16 (by omega) c16
        rw [kc] at okc
        obtain ⟨-, e1, cs, s1, o1, o2, o3, o4⟩ := okc
        obtain ⟨g1, g2, g3⟩ := hWc.k0 o4
        have z1 := hWc.kin g2
        have y1 := eL _ z1.1 z1.2.1
        have := wCs_l (F := J.2.2.1) (σ := s.1) (n := c) (bd := wB J.2.2.1 s.1 N ℓ) (g := fun c => 20000 * szF J.2.2.1 c) (kids J.2.2.1 c).tail (p + (cE J.2.2.1 s.1 N (c + 1)).length + 1) (fun b hb p => by
          have kb' : kK J.2.2.1 b ∈ cs ++ s1 := by
            have : kK J.2.2.1 b ∈ ((kids J.2.2.1 c).tail).map (kK J.2.2.1) := List.mem_map_of_mem hb
            rw [List.map_tail, o4] at this
            exact this
          have hb := List.mem_of_mem_tail hb
          have zb := hWc.kin hb
          refine ⟨fun _ => by have := bL ℓ b zb.1 zb.2.1 p; show _ ≤ 20000 * szF J.2.2.1 b; omega, fun q => ?_⟩
          have k17 : kK J.2.2.1 b = 17 := by
            rcases List.mem_append.mp kb' with w | w
            · exact o2 _ w
            · exfalso
              apply q
              have k11 : kK J.2.2.1 b = 11 := by
                rcases o3 with y | y
                · rw [y] at w; cases w
                · rw [y] at w; exact List.mem_singleton.mp w
              rcases hS.ks zb.2.2.2.1 with y | ⟨y, w⟩
              · rw [y, k11]; rfl
              · omega
          obtain ⟨M, hM⟩ := hS.1.1 b zb.2.2.2.1
          obtain ⟨t1, t2, t3, t4, t5, t6⟩ := k17_s hM k17
          have zl := hM.kin t4
          have bl := bL ℓ (lsK J.2.2.1 b) (by omega) (by omega) p
          have sm := hM.sum
          rw [t1, List.map_append, List.sum_append] at sm
          have sm : ((rgK J.2.2.1 b).map (szF J.2.2.1)).sum + (szF J.2.2.1 (lsK J.2.2.1 b) + 0) + 1 = szF J.2.2.1 b := sm
          have lr := len_le_sum (F := J.2.2.1) (rgK J.2.2.1 b) (fun x hx => (hM.kin (t2 x hx).2).2.2.2.2)
          show _ ≤ 20000 * szF J.2.2.1 b
          omega)
        cases hk : kids J.2.2.1 c with
        | nil => rw [hk] at g2; cases g2
        | cons x L =>
          rw [hk] at g1 this all'
          have ex : x = c + 1 := by simpa using g1
          rw [List.tail_cons] at this
          rw [List.tail_cons]
          rw [List.map_cons, List.sum_cons, ex] at all'
          omega
      rw [if_neg c16]
      by_cases c19 : s.1.2.2.1 c = 19
      · rw [if_pos c19, res_len]
        have kc := kq 19 (by omega) c19
        obtain ⟨hF, -, -, k11, bm⟩ := k19_s hS hWc kc
        have zb := hWc.kin bm
        have y1 := bL c _ zb.1 zb.2.1 (p + 4)
        rw [List.length_append, List.length_cons, List.length_append]
        show 3 + ((wB J.2.2.1 s.1 N c (bdF s.1 c) (p + 4)).length + 5 + 1) ≤ _
        have : szF J.2.2.1 (bdF s.1 c) + 1 ≤ szF J.2.2.1 c := by omega
        omega
      rw [if_neg c19]
      by_cases c20 : s.1.2.2.1 c = 20
      · rw [if_pos c20, one]
        omega
      · rw [if_neg c20, one]
        omega
    rw [sum_k] at st
    have : 20000 * szF J.2.2.1 n = 20000 * ((kids J.2.2.1 n).map (szF J.2.2.1)).sum + 20000 := by omega
    omega
