/-! THE WRITER: exits are in loops -/
def P17 (F : List ND) (A : List Nat) (i : Nat) : Prop := ∀ j, j < F.length → j < i → j ∉ A → kK F j = 20 → ∃ p, p < F.length ∧ kK F p = 19 ∧ p < j ∧ j < p + szF F p
theorem P17.l {m0 : yM} {T : Nat} {F : List ND} {N : Nat} {A : List Nat} {n : Nat} {s : SU} {σ' : RS} (hp : PA m0 T F N A n) (h : PAll F (A ++ [n]) (n + szF F n) s) (hq : P17 F (A ++ [n]) (n + szF F n)) (e : lk F A s.1 s.2 n = .inl σ') : P17 F A (n + szF F n) := by
  intro j j1 j2 j3 k
  by_cases ne : j = n
  · subst ne
    have h1 := h.1.1
    have nA : j ∈ A ++ [j] := List.mem_append_right _ List.mem_cons_self
    obtain ⟨kn, vn, tn⟩ := h1.1 j j1 (Or.inr nA)
    rw [lk_s (by rw [kn, k]; decide), lkS_k.2.2.2.2.2 (by rw [kn, k]; rfl)] at e
    split at e
    · rename_i q
      obtain ⟨p, p1, p2⟩ := List.any_eq_true.mp q
      have pl := hp.lt.2 p p1
      have kp := (h1.1 p pl (Or.inr (List.mem_append_left _ p1))).1
      obtain ⟨z1, z2, M, hM⟩ := hp.2.2 p p1
      have at' := hp.1.at
      refine ⟨p, pl, ?_, z1, by omega⟩
      have p2 : s.1.2.2.1 p = 19 := by simpa [for0] using p2
      rw [kp] at p2
      exact (nI_eq (b := 19) (by have := hM.k37; omega) (by omega)).mp p2
    · cases e
  · exact hq j j1 j2 (mem_l j3 ne) k
theorem jn_17 {m0 : yM} {T N : Nat} {F : List ND} (hF : HF m0 T F) (hW : TW m0 T F N 0) (hz : szF F 0 = F.length) {s : SU} (e : jn F N [] 0 (sg0 F) = .inl s) : P17 F [] F.length := by
  have := jn_ind (P := fun A i s => PAll F A i s ∧ P17 F A i) (m0 := m0) (T := T) (F := F) (fun N A n s σ hp h e => ⟨PAll.b hF hp h.1 e, fun j j1 j2 j3 => by obtain ⟨a, b⟩ := mem_b j2 j3; exact h.2 j j1 a b⟩) (fun N A n s σ' hp h e => ⟨PAll.l hF hp h.1 e, P17.l hp h.1 h.2 e⟩) N [] 0 (sg0 F) ⟨hW, rfl, fun p hp => by cases hp⟩ ⟨PAll.z (fun j hj => hF.1.k hj), fun j _ hj => absurd hj (Nat.not_lt_zero _)⟩ s e
  rw [hz, Nat.zero_add] at this
  exact this.2
/-- each exit below a node is in a loop below it -/
def gX (F : List ND) (n : Nat) : Prop := ∀ j, n ≤ j → j < n + szF F n → kK F j = 20 → ∃ p, n ≤ p ∧ kK F p = 19 ∧ p < j ∧ j < p + szF F p
theorem gX.no {F : List ND} {n : Nat} (h : gX F n) (hz : 0 < szF F n) : ¬ kK F n = 20 := fun k => by
  obtain ⟨p, p1, p2, p3, p4⟩ := h n (Nat.le_refl _) (by omega) k
  omega
theorem gX.kid {m0 : yM} {T : Nat} {F : List ND} (hH : HW m0 T F) {N n c : Nat} (hW : TW m0 T F N n) (k : ¬ kK F n = 19) (hc : c ∈ kids F n) (h : gX F n) : gX F c := by
  have z := hW.kin hc
  intro j j1 j2 k20
  obtain ⟨p, p1, p2, p3, p4⟩ := h j (by omega) (by omega) k20
  have pn : ¬ p = n := fun w => k (by rw [← w]; exact p2)
  obtain ⟨q, q1, q2, q3⟩ := hW.at_kid (show n < p by omega) (by omega)
  have zq := hW.kin q1
  obtain ⟨M, hM⟩ := hH q zq.2.2.2.1
  have ne := TW.nest M q hM p q2 q3
  refine ⟨p, ?_, p2, p3, p4⟩
  rcases Nat.lt_trichotomy q c with w | w | w
  · have := tile_ne _ _ hW.til q c q1 hc w
    omega
  · omega
  · have := tile_ne _ _ hW.til c q hc q1 w
    omega
theorem sBl_S : ∀ k, k < 37 → ¬ (k = 0 ∨ k = 1 ∨ k = 2 ∨ k = 3) → ∀ x, x ∈ kidK k → ¬ (x = 0 ∨ x = 1 ∨ x = 2 ∨ x = 3) := fun k hk h x hx => sBl_c k hk (fun z => h (Or.inl z)) x hx
theorem gX_of {m0 : yM} {T : Nat} {F : List ND} (hH : HW m0 T F) (h17 : P17 F [] F.length) {N n q : Nat} (hW : TW m0 T F N q) (k : kK F q = 1 ∨ kK F q = 2 ∨ kK F q = 3) (hc : n ∈ kids F q) : gX F n := by
  have z := hW.kin hc
  have at' := hW.at
  intro j j1 j2 k20
  obtain ⟨p, pl, p2, p3, p4⟩ := h17 j (by omega) (by omega) (by simp) k20
  rcases Nat.lt_or_ge p n with w | w
  · exfalso
    obtain ⟨M, hM⟩ := hH p pl
    rcases Nat.lt_trichotomy p q with y | y | y
    · exact TW.cl sBl_S M p hM (by omega) q (by omega) (by omega) (by omega)
    · rw [y] at p2; omega
    · obtain ⟨c, c1, c2, c3⟩ := hW.at_kid y (by omega)
      obtain ⟨M', hM'⟩ := hH c (hW.kin c1).2.2.2.1
      have ne := TW.nest M' c hM' p c2 c3
      have := tile_ne _ _ hW.til c n c1 hc (by omega)
      omega
  · exact ⟨p, w, p2, p3, p4⟩
def mk4 (n : Nat) (D : List IT) : Prop := ∀ x, x ∈ D → x.2.2.2.2.1 = 0 ∨ x.2.2.2.2.1 = mE n
theorem mk4.app {n : Nat} {D E : List IT} (h : mk4 n D) (h2 : mk4 n E) : mk4 n (D ++ E) := fun x hx => (List.mem_append.mp hx).elim (h x) (h2 x)
theorem mk0.w4 {n : Nat} {D : List IT} (h : mk0 D) : mk4 n D := fun x hx => Or.inl (h x hx)
theorem mk4.res {n : Nat} {D : List IT} (h : mk4 n D) (v : Int32) : mk0 (res (mE n) v D) := by
  intro x hx
  obtain ⟨y, y1, y2⟩ := List.mem_map.mp hx
  rw [← y2]
  unfold rs1
  by_cases c : y.2.2.2.2.1 = mE n
  · rw [if_pos c]
  · rw [if_neg c]
    exact (h y y1).resolve_right c
theorem wy_4 {n : Nat} {bd : Nat → Nat → List IT} {b : Nat} (hb : ∀ p, mk0 (bd b p)) (mo : Bool) (p : Nat) : mk4 n (wy n bd b mo p) := by
  unfold wy
  refine mk4.app (D := [_]) (fun x hx => ?_) ((hb _).w4.app (fun x hx => ?_))
  · rw [List.mem_singleton.mp hx]; exact Or.inl rfl
  · split at hx
    · rw [List.mem_singleton.mp hx]; exact Or.inr rfl
    · cases hx
theorem wIf_4 {n : Nat} {e : Nat → List IT} {bd : Nat → Nat → List IT} (he : ∀ c, mk0 (e c)) : ∀ (k : Nat) (L : List Nat) (p : Nat), L.length ≤ k → (∀ b, b ∈ L → ∀ p, mk0 (bd b p)) → mk4 n (wIf n e bd L p) := by
  intro k
  induction k with
  | zero =>
    intro L p hk _
    rw [List.length_eq_zero_iff.mp (show L.length = 0 by omega)]
    exact fun x hx => by cases hx
  | succ k ih =>
    intro L p hk hb
    match L, hk, hb with
    | [], _, _ => exact fun x hx => by cases hx
    | [b], _, hb => exact (hb b List.mem_cons_self p).w4
    | g :: b :: L, hk, hb =>
      show mk4 n (e g ++ (wy n bd b (!L.isEmpty) (p + (e g).length) ++ wIf n e bd L (p + (e g).length + (wy n bd b (!L.isEmpty) (p + (e g).length)).length)))
      exact (he g).w4.app ((wy_4 (hb b (List.mem_cons_of_mem _ List.mem_cons_self)) _ _).app (ih L _ (by simp at hk; omega) (fun x hx => hb x (List.mem_cons_of_mem _ (List.mem_cons_of_mem _ hx)))))
theorem wCs_4 {F : List ND} {σ : RS} {n : Nat} {bd : Nat → Nat → List IT} : ∀ (L : List Nat) (p : Nat), (∀ c, c ∈ L → ∀ p, (σ.2.2.1 c = 11 → mk0 (bd c p)) ∧ (¬ σ.2.2.1 c = 11 → mk0 (bd (lsK F c) p))) → mk4 n (wCs F σ n bd L p)
  | [], p, _ => fun x hx => by cases hx
  | c :: L, p, hb => by
    unfold wCs
    have hc := hb c List.mem_cons_self
    have hL : ∀ c, c ∈ L → ∀ p, (σ.2.2.1 c = 11 → mk0 (bd c p)) ∧ (¬ σ.2.2.1 c = 11 → mk0 (bd (lsK F c) p)) := fun x hx => hb x (List.mem_cons_of_mem _ hx)
    split
    · rename_i q
      exact ((hc p).1 q).w4.app (wCs_4 L _ hL)
    · rename_i q
      exact (rgL_0 F σ _ _ _).w4.app ((wy_4 (fun p => (hc p).2 q) _ _).app (wCs_4 L _ hL))
theorem seq_0 {f : Nat → Nat → List IT} : ∀ (L : List Nat) (p : Nat), (∀ c, c ∈ L → ∀ p, mk0 (f c p)) → mk0 (seqC f L p)
  | [], p, _ => fun x hx => by cases hx
  | c :: L, p, h => (h c List.mem_cons_self p).app (seq_0 L _ (fun x hx => h x (List.mem_cons_of_mem _ hx)))
theorem kid19 : ∀ k, k < 37 → (¬ k = 11 → 19 ∉ kidK k) ∧ (k = 11 → 19 ∈ kidK k) ∧ (20 ∈ kidK k → k = 11) := by decide
theorem wB_0 {m0 : yM} {T : Nat} {F : List ND} {s : SU} (hS : HS m0 T F s) : ∀ (N ℓ n p : Nat), TW m0 T F N n → ¬ kK F n = 19 → gX F n → mk0 (wB F s.1 N ℓ n p) := by
  intro N
  induction N with
  | zero => intro ℓ n p _ _ _; exact mk0.nil
  | succ N ih =>
    intro ℓ n p hW k g
    refine seq_0 _ _ (fun c hc p => ?_)
    have z := hW.kin hc
    have gc := g.kid hS.1.1 hW k hc
    have hWc := hW.2.2.2.2.2.2 c hc
    have w2 := wT_2 (F := F) (σ := s.1) (cE_0 F s.1 N) (wB_2 F s.1 N) ℓ c p
    have ks := hS.ks z.2.2.2.1
    have k37 := hS.1.2.1 c z.2.2.2.1
    have kq : ∀ q, q < 30 → (s.1.2.2.1 c = nI q → kK F c = q) := by
      intro q hq y
      rcases ks with w | ⟨w, -⟩
      · rw [w] at y; exact (nI_eq (by omega) (by omega)).mp y
      · rw [w] at y
        have := (nI_eq (a := 30) (by omega) (by omega)).mp (show nI 30 = nI q from y)
        omega
    have bdy : ∀ c', c < c' → c' < c + szF F c → ¬ kK F c' = 19 → gX F c' → ∀ p, mk0 (wB F s.1 N ℓ c' p) := by
      intro c' q1 q2 q3 q4 p
      obtain ⟨M, hM1, hM2⟩ := TW.all N c hWc c' (by omega) q2
      exact ih ℓ c' p (hM2.le hM1) q3 q4
    have e0 := cE_0 F s.1 N
    have iv : ∀ L, mk0 (wIv F s.1 (cE F s.1 N) L) := by
      intro L
      induction L with
      | nil => exact mk0.nil
      | cons c L ih => exact (e0 _).app ((mk0.i rfl).app ih)
    unfold wT at w2 ⊢
    by_cases c12 : s.1.2.2.1 c = 12
    · rw [if_pos c12]
      split
      · exact (e0 _).app ((e0 _).app (mk0.i rfl))
      · exact (e0 _).app (mk0.i rfl)
    rw [if_neg c12] at w2 ⊢
    by_cases c13 : s.1.2.2.1 c = 13
    · rw [if_pos c13]
      refine (iv _).app (fun x hx => ?_)
      rw [List.mem_singleton.mp hx]
      split <;> rfl
    rw [if_neg c13] at w2 ⊢
    by_cases c15 : s.1.2.2.1 c = 15
    · rw [if_pos c15]
      have kc := kq 15 (by omega) c15
      refine (wIf_4 e0 _ _ _ (Nat.le_refl _) (fun b hb p => ?_)).res _
      have zb := hWc.kin hb
      have kb := hWc.kid hb
      have := (kid19 (kK F c) (by omega)).1 (by omega)
      exact bdy b zb.1 zb.2.1 (fun y => this (by rw [← y]; exact kb)) (gc.kid hS.1.1 hWc (by omega) hb) p
    rw [if_neg c15] at w2 ⊢
    by_cases c16 : s.1.2.2.1 c = 16
    · rw [if_pos c16]
      have kc := kq 16 (by omega) c16
      refine ((e0 _).w4.app ((mk0.i rfl).w4.app (wCs_4 _ _ (fun b hb p => ?_)))).res _
      have okc := hWc.ok
      rw [kc] at okc
      obtain ⟨-, e1, cs, s1, o1, o2, o3, o4⟩ := okc
      have kb' : kK F b ∈ cs ++ s1 := by
        have : kK F b ∈ ((kids F c).tail).map (kK F) := List.mem_map_of_mem hb
        rw [List.map_tail, o4] at this
        exact this
      have hb := List.mem_of_mem_tail hb
      have zb := hWc.kin hb
      have kb := hWc.kid hb
      have n19 := (kid19 (kK F c) (by omega)).1 (by omega)
      have nb : ¬ kK F b = 19 := fun y => n19 (by rw [← y]; exact kb)
      have gb := gc.kid hS.1.1 hWc (by omega) hb
      refine ⟨fun _ => bdy b zb.1 zb.2.1 nb gb p, fun q => ?_⟩
      obtain ⟨M, hM⟩ := hS.1.1 b zb.2.2.2.1
      have k17 : kK F b = 17 := by
        rcases List.mem_append.mp kb' with w | w
        · exact o2 _ w
        · exfalso
          apply q
          have k11 : kK F b = 11 := by
            rcases o3 with y | y
            · rw [y] at w; cases w
            · rw [y] at w; exact List.mem_singleton.mp w
          rcases hS.ks zb.2.2.2.1 with y | ⟨y, w⟩
          · rw [y, k11]; rfl
          · omega
      have okb := hM.ok
      rw [k17] at okb
      obtain ⟨-, rr, -, -, ekb, -⟩ := okb
      have kl0 : 0 < (kids F b).length := by
        have := congrArg List.length ekb
        rw [List.length_map, List.length_append, List.length_singleton] at this
        omega
      unfold lsK
      have lm : (kids F b).getD ((kids F b).length - 1) 0 ∈ kids F b := List.mem_of_getElem? (getD_some (d := 0) (by omega))
      have zl := hM.kin lm
      have kl := hM.kid lm
      have m19 := (kid19 (kK F b) (by omega)).1 (by omega)
      exact bdy _ (by omega) (by omega) (fun y => m19 (by rw [← y]; exact kl)) (gb.kid hS.1.1 hM nb lm) p
    rw [if_neg c16] at w2 ⊢
    by_cases c19 : s.1.2.2.1 c = 19
    · rw [if_pos c19]
      intro x hx
      obtain ⟨y, y1, y2⟩ := List.mem_map.mp hx
      have yk : y.2.2.2.2.1 = 0 ∨ y.2.2.2.2.1 = mX c := by
        rcases List.mem_append.mp y1 with w | w
        · unfold fr1 at w
          simp only [List.mem_cons, List.mem_nil_iff, or_false] at w
          rcases w with w | w | w <;> rw [w] <;> exact Or.inl rfl
        · rcases List.mem_cons.mp w with w | w
          · rw [w]; exact Or.inl rfl
          · rcases List.mem_append.mp w with w | w
            · exact wB_2 F s.1 N c _ _ y w
            · unfold fr2 at w
              simp only [List.mem_cons, List.mem_nil_iff, or_false] at w
              rcases w with w | w | w | w | w <;> rw [w] <;> exact Or.inl rfl
      rw [← y2]
      unfold rs1
      by_cases q : y.2.2.2.2.1 = mX c
      · rw [if_pos q]
      · rw [if_neg q]; exact yk.resolve_right q
    rw [if_neg c19] at w2 ⊢
    by_cases c20 : s.1.2.2.1 c = 20
    · exact absurd (kq 20 (by omega) c20) (gc.no z.2.2.2.2)
    · rw [if_neg c20]
      exact mk0.i rfl
