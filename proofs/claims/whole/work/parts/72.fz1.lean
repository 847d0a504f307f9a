/-! WHAT TOKENS SAY: names, places, how many names, how long words are -/
abbrev isNc (c : Nat) : Prop := (65 ≤ c ∧ c ≤ 90) ∨ c = 95 ∨ isDN c
/-- letters of a name -/
def nmc (w : List Int32) : Prop := ∃ (c : Nat) (L : List Nat), w = (c :: L).map nI ∧ isNc c ∧ ¬ isDN c ∧ ∀ x, x ∈ L → isNc x
theorem isNc_g : ∀ c, c < 256 → isPN c → isNc (gN c) ∧ (¬ dN c < 10 → ¬ isDN (gN c)) := by decide +kernel
theorem tkAt_nd {f : Nat → Nat} {n p : Nat} (h : (tkAt f n p).1 = 1) : ¬ dN (f p) < 10 := by
  intro hd
  have hp := (tkAt_nm h).1
  unfold tkAt at h
  rw [if_neg (fun z => z hp)] at h
  by_cases ht : gN (f p) = 84 ∧ p + 1 < n ∧ f (p + 1) = 35
  · rw [if_pos ht] at h
    have := timT_K f n p (rn f (isDg 10) (n - (p + 2)) (p + 2)) (dv f 10 (n - (p + 2)) (p + 2) 0)
    omega
  · rw [if_neg ht, if_pos hd] at h
    have := numT_K f n p (rn f (isDg 10) (n - p) p) (dv f 10 (n - p) p 0)
    omega
theorem tokN_1 {f : Nat → Nat} {n p : Nat} (h : (tokN f n p).1.1 = 1) : (tokN f n p).1 = tkAt f n (tokN f n p).2 := by
  unfold tokN at h ⊢
  by_cases z : (blk f n 8192 p).2 = true
  · rw [if_pos z] at h
    exact absurd h (show ¬ (5 : Nat) = 1 by decide)
  · rw [if_neg z]
theorem wd_nmc {f : Nat → Nat} {n t : Nat} (hf : ∀ i, i < n → f i < 256) (h : (tokN f n (ps f n t)).1.1 = 1) : nmc (wd f n t) := by
  have e := tokN_1 h
  have h1 : (tkAt f n (tokN f n (ps f n t)).2).1 = 1 := by rw [← e]; exact h
  unfold wd
  rw [e]
  generalize (tokN f n (ps f n t)).2 = p at h1
  obtain ⟨a1, a2, a3, a4⟩ := tkAt_nm h1
  have nd := tkAt_nd h1
  rw [a3]
  have rl := rn_le f isPb (n - p) p
  have ri := rn_in f isPb (n - p) p
  have rp := rn_pos (f := f) (P := isPb) (q := n - p) (i := p) (by omega) (decide_eq_true a2)
  generalize rn f isPb (n - p) p = e at rl ri rp
  obtain ⟨s, hs⟩ : ∃ s, e - p = s + 1 := ⟨e - p - 1, by omega⟩
  rw [hs]
  have g0 := isNc_g (f p) (hf p a1) a2
  refine ⟨gN (f p), (List.range s).map (fun i => gN (f (p + (i + 1)))), ?_, g0.1, g0.2 nd, fun x hx => ?_⟩
  · unfold nmT
    rw [List.range_succ_eq_map, List.map_cons, List.map_map, List.map_cons, List.map_map]
    rfl
  · obtain ⟨i, i1, rfl⟩ := List.mem_map.mp hx
    have i1 := List.mem_range.mp i1
    exact (isNc_g _ (hf _ (by omega)) (of_decide_eq_true (ri (p + (i + 1)) (by omega) (by omega)))).1
theorem nmc.no {w : List Int32} (h : nmc w) (k : Nat) (hk : k < 256) (hn : ¬ isNc k) : nI k ∉ w := by
  obtain ⟨c, L, rfl, h1, h2, h3⟩ := h
  intro hm
  obtain ⟨x, hx, e⟩ := List.mem_map.mp hm
  have xc : isNc x := by
    rcases List.mem_cons.mp hx with rfl | y
    · exact h1
    · exact h3 x y
  have x9 : x < 256 := by
    rcases xc with y | y | y <;> omega
  have := (nI_eq (a := x) (b := k) (by omega) (by omega)).mp e
  subst this
  exact hn xc
/-- the class's names of a text -/
def EN (E : EV) (Ns : List (List Int32)) : Prop := KN <+: Ns ∧ Ns.Nodup ∧ Ns.length ≤ 4172 ∧ E.2.2.2.1 ≤ 8192 ∧ (∀ i, i < E.2.2.2.1 → E.2.2.1 i < 256) ∧ (∀ i, i < E.2.2.2.2 → ¬ isEnd E.2.2.1 E.2.2.2.1 i) ∧ (∀ i, i ≤ E.2.2.2.2 → TkA E.1 Ns E.2.2.1 E.2.2.2.1 i)
theorem EN.nm {E : EV} {Ns : List (List Int32)} (h : EN E Ns) {t : Nat} (ht : t < E.2.2.2.2) (h64 : E.1.1 9 t = 64) : (tokN E.2.2.1 E.2.2.2.1 (ps E.2.2.1 E.2.2.2.1 t)).1.1 = 1 ∧ ∃ j, 41 ≤ j ∧ j < Ns.length ∧ Ns.getD j [] = wd E.2.2.1 E.2.2.2.1 t ∧ E.1.1 11 t = nI j := by
  obtain ⟨a1, a2⟩ := h.2.2.2.2.2.2 t (by omega)
  by_cases z : (tokN E.2.2.1 E.2.2.2.1 (ps E.2.2.1 E.2.2.2.1 t)).1.1 = 1
  · rw [if_pos z] at a2
    obtain ⟨j, j1, j2, j3, j4⟩ := a2
    refine ⟨z, j, ?_, j1, j2, j4⟩
    rcases Nat.lt_or_ge j 41 with y | y
    · rw [if_pos y, h64] at j3
      exact absurd ((nI_eq (a := 64) (b := j) (by omega) (by omega)).mp j3) (by omega)
    · exact y
  · rw [if_neg z] at a2
    have e1 := a2.1
    rw [h64] at e1
    exfalso
    unfold ckd at e1
    by_cases z2 : (tokN E.2.2.1 E.2.2.2.1 (ps E.2.2.1 E.2.2.2.1 t)).1.1 = 2
    · rw [if_pos z2] at e1; exact absurd e1 (by decide)
    · rw [if_neg z2] at e1
      by_cases z3 : (tokN E.2.2.1 E.2.2.2.1 (ps E.2.2.1 E.2.2.2.1 t)).1.1 = 3
      · rw [if_pos z3] at e1; exact absurd e1 (by decide)
      · rw [if_neg z3] at e1
        by_cases z4 : (tokN E.2.2.1 E.2.2.2.1 (ps E.2.2.1 E.2.2.2.1 t)).1.1 = 4
        · rw [if_pos z4] at e1
          unfold tokN at z4 e1
          by_cases z : (blk E.2.2.1 E.2.2.2.1 8192 (ps E.2.2.1 E.2.2.2.1 t)).2 = true
          · rw [if_pos z] at z4
            exact absurd z4 (show ¬ (5 : Nat) = 4 by decide)
          · rw [if_neg z] at z4 e1
            obtain ⟨s, s1, s2⟩ := tkAt_s z4
            rw [s2] at e1
            have := sK_ge s1
            exact absurd ((nI_eq (a := 64) (b := sK s) (by omega) (by omega)).mp e1) (by omega)
        · rw [if_neg z4] at e1
          by_cases z5 : (tokN E.2.2.1 E.2.2.2.1 (ps E.2.2.1 E.2.2.2.1 t)).1.1 = 5
          · rw [if_pos z5] at e1; exact absurd e1 (by decide)
          · rw [if_neg z5] at e1; exact absurd e1 (by decide)
theorem plT_v {f : Nat → Nat} {n p E V : Nat} (h : (plT f n p E V).1 = 3) : ∃ w k, w < 6 ∧ k < 256 ∧ (3 ≤ w → k < 64) ∧ (plT f n p E V).2.1 = 256 * w + k := by
  unfold plT at h ⊢
  have wl := wyN_le (grN f n (p + 1))
  by_cases a1 : wyN (grN f n (p + 1)) = 3 ∨ ¬ (p + 2 < n ∧ (gN (f (p + 2)) = 88 ∨ gN (f (p + 2)) = 87))
  · rw [if_pos a1] at h; exact absurd h (show ¬ (5 : Nat) = 3 by decide)
  · rw [if_neg a1] at h ⊢
    by_cases a2 : E = p + 3 ∨ (if gN (f (p + 2)) = 88 then 255 else 63) < V ∨ (E < n ∧ isPN (f E))
    · rw [if_pos a2] at h; exact absurd h (show ¬ (5 : Nat) = 3 by decide)
    · rw [if_neg a2]
      by_cases a3 : gN (f (p + 2)) = 88
      · rw [if_pos a3] at a2 ⊢
        exact ⟨wyN (grN f n (p + 1)), V, by omega, by omega, by omega, rfl⟩
      · rw [if_neg a3] at a2 ⊢
        exact ⟨wyN (grN f n (p + 1)) + 3, V, by omega, by omega, by omega, rfl⟩
theorem EN.pl {E : EV} {Ns : List (List Int32)} (h : EN E Ns) {t : Nat} (ht : t < E.2.2.2.2) (h66 : E.1.1 9 t = 66) : ∃ w k, w < 6 ∧ k < 256 ∧ (3 ≤ w → k < 64) ∧ E.1.1 11 t = nI (256 * w + k) := by
  obtain ⟨a1, a2⟩ := h.2.2.2.2.2.2 t (by omega)
  by_cases z : (tokN E.2.2.1 E.2.2.2.1 (ps E.2.2.1 E.2.2.2.1 t)).1.1 = 1
  · rw [if_pos z] at a2
    obtain ⟨j, j1, j2, j3, j4⟩ := a2
    rw [h66] at j3
    exfalso
    by_cases y : j < 41
    · rw [if_pos y] at j3
      exact absurd ((nI_eq (a := 66) (b := j) (by omega) (by omega)).mp j3) (by omega)
    · rw [if_neg y] at j3; exact absurd j3 (by decide)
  · rw [if_neg z] at a2
    obtain ⟨e1, e2⟩ := a2
    rw [h66] at e1
    unfold ckd at e1
    by_cases z3 : (tokN E.2.2.1 E.2.2.2.1 (ps E.2.2.1 E.2.2.2.1 t)).1.1 = 3
    · have ne4 : ¬ (tokN E.2.2.1 E.2.2.2.1 (ps E.2.2.1 E.2.2.2.1 t)).1.1 = 4 := by omega
      rw [e2]
      unfold cvl
      rw [if_neg ne4]
      unfold tokN at z3 ⊢
      by_cases z : (blk E.2.2.1 E.2.2.2.1 8192 (ps E.2.2.1 E.2.2.2.1 t)).2 = true
      · rw [if_pos z] at z3
        exact absurd z3 (show ¬ (5 : Nat) = 3 by decide)
      · rw [if_neg z] at z3 ⊢
        dsimp only at z3 ⊢
        generalize (blk E.2.2.1 E.2.2.2.1 8192 (ps E.2.2.1 E.2.2.2.1 t)).1 = p at z3 ⊢
        generalize E.2.2.1 = f at z3 ⊢
        generalize E.2.2.2.1 = n at z3 ⊢
        unfold tkAt at z3 ⊢
        by_cases hp : p < n
        · rw [if_neg (fun z => z hp)] at z3 ⊢
          by_cases ht : gN (f p) = 84 ∧ p + 1 < n ∧ f (p + 1) = 35
          · rw [if_pos ht] at z3
            have := timT_K f n p (rn f (isDg 10) (n - (p + 2)) (p + 2)) (dv f 10 (n - (p + 2)) (p + 2) 0)
            omega
          · rw [if_neg ht] at z3 ⊢
            by_cases hd : dN (f p) < 10
            · rw [if_pos hd] at z3
              have := numT_K f n p (rn f (isDg 10) (n - p) p) (dv f 10 (n - p) p 0)
              omega
            · rw [if_neg hd] at z3 ⊢
              by_cases hi : isPN (f p)
              · rw [if_pos hi] at z3
                by_cases h3 : 32 < rn f isPb (n - p) p - p
                · rw [if_pos h3] at z3; exact absurd z3 (show ¬ (5 : Nat) = 3 by decide)
                · rw [if_neg h3] at z3; exact absurd z3 (show ¬ (1 : Nat) = 3 by decide)
              · rw [if_neg hi] at z3 ⊢
                by_cases hc : f p = 37
                · rw [if_pos hc] at z3 ⊢
                  obtain ⟨w, k, w1, w2, w3, w4⟩ := plT_v z3
                  exact ⟨w, k, w1, w2, w3, by rw [w4]⟩
                · rw [if_neg hc] at z3
                  have := sgT_K f n p
                  omega
        · rw [if_pos hp] at z3
          exact absurd z3 (show ¬ (0 : Nat) = 3 by decide)
    · exfalso
      by_cases z2 : (tokN E.2.2.1 E.2.2.2.1 (ps E.2.2.1 E.2.2.2.1 t)).1.1 = 2
      · rw [if_pos z2] at e1; exact absurd e1 (by decide)
      · rw [if_neg z2, if_neg z3] at e1
        by_cases z4 : (tokN E.2.2.1 E.2.2.2.1 (ps E.2.2.1 E.2.2.2.1 t)).1.1 = 4
        · rw [if_pos z4] at e1
          unfold tokN at z4 e1
          by_cases z : (blk E.2.2.1 E.2.2.2.1 8192 (ps E.2.2.1 E.2.2.2.1 t)).2 = true
          · rw [if_pos z] at z4
            exact absurd z4 (show ¬ (5 : Nat) = 4 by decide)
          · rw [if_neg z] at z4 e1
            obtain ⟨s, s1, s2⟩ := tkAt_s z4
            rw [s2] at e1
            have := sK_ge s1
            exact absurd ((nI_eq (a := 66) (b := sK s) (by omega) (by omega)).mp e1) (by omega)
        · rw [if_neg z4] at e1
          by_cases z5 : (tokN E.2.2.1 E.2.2.2.1 (ps E.2.2.1 E.2.2.2.1 t)).1.1 = 5
          · rw [if_pos z5] at e1; exact absurd e1 (by decide)
          · rw [if_neg z5] at e1; exact absurd e1 (by decide)
/-! how far the tokens go -/
theorem blk_ge {f : Nat → Nat} {n p : Nat} (h : p ≤ n) : p ≤ (tokN f n p).2 := (blk_le f n 8192 p h).1
/-- a token that is none of the last ones: where it begins, where it ends -/
theorem ps_e {f : Nat → Nat} {n t : Nat} (h : ¬ isEnd f n t) : (tokN f n (ps f n t)).2 < ps f n (t + 1) ∧ ps f n (t + 1) ≤ n := by
  show _ < (tokN f n (ps f n t)).1.2.2 ∧ (tokN f n (ps f n t)).1.2.2 ≤ n
  unfold isEnd at h
  unfold tokN at h ⊢
  by_cases z : (blk f n 8192 (ps f n t)).2 = true
  · rw [if_pos z] at h; exact absurd (Or.inr rfl) h
  · rw [if_neg z] at h ⊢
    exact tkAt_adv (fun y => h (Or.inl y)) (fun y => h (Or.inr y))
theorem ps_n {f : Nat → Nat} {n T : Nat} (hE : ∀ i, i < T → ¬ isEnd f n i) : ∀ t, t ≤ T → ps f n t ≤ n
  | 0, _ => Nat.zero_le _
  | t + 1, ht => (ps_e (hE t (by omega))).2
theorem ps_s {f : Nat → Nat} {n t T : Nat} (hE : ∀ i, i < T → ¬ isEnd f n i) (ht : t < T) : ps f n t ≤ (tokN f n (ps f n t)).2 ∧ (tokN f n (ps f n t)).2 < ps f n (t + 1) ∧ ps f n (t + 1) ≤ n := ⟨blk_ge (ps_n hE t (by omega)), ps_e (hE t ht)⟩
/-- names among the first t tokens -/
def nmCt (f : Nat → Nat) (n : Nat) : Nat → Nat
  | 0 => 0
  | t + 1 => nmCt f n t + (if (tokN f n (ps f n t)).1.1 = 1 then 1 else 0)
theorem nmCt_le {f : Nat → Nat} {n T : Nat} (hE : ∀ i, i < T → ¬ isEnd f n i) : ∀ t, t ≤ T → 2 * nmCt f n t ≤ ps f n t + 1 ∧ (2 * nmCt f n t = ps f n t + 1 → ps f n t < n → ¬ isPN (f (ps f n t)))
  | 0, _ => ⟨by simp [nmCt], fun h => by simp [nmCt, ps] at h⟩
  | t + 1, ht => by
    obtain ⟨i1, i2⟩ := nmCt_le hE t (by omega)
    obtain ⟨a1, a2, a3⟩ := ps_s hE (show t < T by omega)
    have es : nmCt f n (t + 1) = nmCt f n t + (if (tokN f n (ps f n t)).1.1 = 1 then 1 else 0) := rfl
    by_cases z : (tokN f n (ps f n t)).1.1 = 1
    · rw [if_pos z] at es
      have e := tokN_1 z
      have ep : ps f n (t + 1) = (tokN f n (ps f n t)).1.2.2 := rfl
      have h1 : (tkAt f n (tokN f n (ps f n t)).2).1 = 1 := by rw [← e]; exact z
      obtain ⟨b1, b2, b3, b4⟩ := tkAt_nm h1
      rw [e] at ep
      rw [b3] at ep
      have b : 2 * nmCt f n (t + 1) ≤ ps f n (t + 1) + 1 := by
        by_cases y : (tokN f n (ps f n t)).2 = ps f n t
        · rw [y] at b1 b2
          have : ¬ 2 * nmCt f n t = ps f n t + 1 := fun q => i2 q b1 b2
          omega
        · omega
      refine ⟨b, fun _ hl => ?_⟩
      have := rn_end f isPb (n - (tokN f n (ps f n t)).2) (tokN f n (ps f n t)).2 (by omega)
      rw [← ep] at this
      exact of_decide_eq_false this
    · rw [if_neg z] at es
      exact ⟨by omega, fun q => by omega⟩
theorem EN.ct {E : EV} {Ns : List (List Int32)} (h : EN E Ns) : nmCt E.2.2.1 E.2.2.2.1 E.2.2.2.2 ≤ 4096 := by
  obtain ⟨h1, h2, h3, h4, h5, h6, h7⟩ := h
  have a := (nmCt_le h6 E.2.2.2.2 (Nat.le_refl _)).1
  have b := ps_n h6 E.2.2.2.2 (Nat.le_refl _)
  omega
/-- a strictly rising list of numbers of names is no longer than there are names -/
theorem cnt_le {f : Nat → Nat} {n : Nat} : ∀ (T : Nat) (L : List Nat), L.Pairwise (· < ·) → (∀ x, x ∈ L → 0 < x ∧ x ≤ T ∧ (tokN f n (ps f n (x - 1))).1.1 = 1) → L.length ≤ nmCt f n T
  | 0, L, _, h => by
    cases L with
    | nil => exact Nat.zero_le _
    | cons a L => have := h a List.mem_cons_self; omega
  | T + 1, L, hp, h => by
    have es : nmCt f n (T + 1) = nmCt f n T + (if (tokN f n (ps f n T)).1.1 = 1 then 1 else 0) := rfl
    by_cases z : T + 1 ∈ L
    · have hT := h _ z
      have e : T + 1 - 1 = T := by omega
      rw [e] at hT
      rw [if_pos hT.2.2] at es
      -- it is the last one
      have key : ∀ (L : List Nat), L.Pairwise (· < ·) → (∀ x, x ∈ L → x ≤ T + 1) → T + 1 ∈ L → ∃ M, L = M ++ [T + 1] := by
        intro L
        induction L with
        | nil => intro _ _ y; simp at y
        | cons a L ih =>
          intro p q y
          have p2 := List.pairwise_cons.mp p
          rcases List.mem_cons.mp y with rfl | y
          · cases L with
            | nil => exact ⟨[], rfl⟩
            | cons b L => have := p2.1 b List.mem_cons_self; have := q b (List.mem_cons_of_mem _ List.mem_cons_self); omega
          · obtain ⟨M, e⟩ := ih p2.2 (fun x hx => q x (List.mem_cons_of_mem _ hx)) y
            exact ⟨a :: M, by rw [e]; rfl⟩
      obtain ⟨M, rfl⟩ := key L hp (fun x hx => (h x hx).2.1) z
      have pm := List.pairwise_append.mp hp
      have := cnt_le T M pm.1 (fun x hx => by
        have a := h x (List.mem_append_left _ hx)
        have := pm.2.2 x hx (T + 1) (List.mem_singleton.mpr rfl)
        exact ⟨a.1, by omega, a.2.2⟩)
      rw [List.length_append, List.length_singleton]
      omega
    · have := cnt_le T L hp (fun x hx => by
        have a := h x hx
        have ne : x ≠ T + 1 := fun e => z (e ▸ hx)
        exact ⟨a.1, by omega, a.2.2⟩)
      omega
/-- how far a word's token goes -/
theorem EN.wl {E : EV} {Ns : List (List Int32)} (h : EN E Ns) {t w : Nat} (ht : t < E.2.2.2.2) (hw : w < 41) (hk : E.1.1 9 t = nI w) : ps E.2.2.1 E.2.2.2.1 t + (KN.getD w []).length ≤ ps E.2.2.1 E.2.2.2.1 (t + 1) := by
  obtain ⟨h1, h2, h3, h4, h5, h6, h7⟩ := h
  obtain ⟨a1, a2⟩ := h7 t (by omega)
  obtain ⟨b1, b2, b3⟩ := ps_s h6 ht
  by_cases z : (tokN E.2.2.1 E.2.2.2.1 (ps E.2.2.1 E.2.2.2.1 t)).1.1 = 1
  · rw [if_pos z] at a2
    obtain ⟨j, j1, j2, j3, j4⟩ := a2
    have ej : j = w := by
      rw [hk] at j3
      by_cases y : j < 41
      · rw [if_pos y] at j3
        exact ((nI_eq (a := w) (b := j) (by omega) (by omega)).mp j3).symm
      · rw [if_neg y] at j3
        exact absurd ((nI_eq (a := w) (b := 64) (by omega) (by omega)).mp j3) (by omega)
    subst ej
    rw [getD_pre h1 (by omega)] at j2
    have := congrArg List.length j2
    rw [nmT_len] at this
    have ep : ps E.2.2.1 E.2.2.2.1 (t + 1) = (tokN E.2.2.1 E.2.2.2.1 (ps E.2.2.1 E.2.2.2.1 t)).1.2.2 := rfl
    omega
  · rw [if_neg z] at a2
    have e1 := a2.1
    rw [hk] at e1
    exfalso
    have big : ∀ K : Nat, K < 256 → 41 ≤ K → ¬ nI w = nI K := fun K k1 k2 e => by
      have := (nI_eq (a := w) (b := K) (by omega) (by omega)).mp e
      omega
    unfold ckd at e1
    by_cases z2 : (tokN E.2.2.1 E.2.2.2.1 (ps E.2.2.1 E.2.2.2.1 t)).1.1 = 2
    · rw [if_pos z2] at e1; exact big 65 (by omega) (by omega) e1
    · rw [if_neg z2] at e1
      by_cases z3 : (tokN E.2.2.1 E.2.2.2.1 (ps E.2.2.1 E.2.2.2.1 t)).1.1 = 3
      · rw [if_pos z3] at e1; exact big 66 (by omega) (by omega) e1
      · rw [if_neg z3] at e1
        by_cases z4 : (tokN E.2.2.1 E.2.2.2.1 (ps E.2.2.1 E.2.2.2.1 t)).1.1 = 4
        · rw [if_pos z4] at e1
          unfold tokN at z4 e1
          by_cases z : (blk E.2.2.1 E.2.2.2.1 8192 (ps E.2.2.1 E.2.2.2.1 t)).2 = true
          · rw [if_pos z] at z4
            exact absurd z4 (show ¬ (5 : Nat) = 4 by decide)
          · rw [if_neg z] at z4 e1
            obtain ⟨s, s1, s2⟩ := tkAt_s z4
            rw [s2] at e1
            have := sK_ge s1
            exact big (sK s) (by omega) (by omega) e1
        · rw [if_neg z4] at e1
          by_cases z5 : (tokN E.2.2.1 E.2.2.2.1 (ps E.2.2.1 E.2.2.2.1 t)).1.1 = 5
          · rw [if_pos z5] at e1; exact big 68 (by omega) (by omega) e1
          · rw [if_neg z5] at e1; exact big 67 (by omega) (by omega) e1
