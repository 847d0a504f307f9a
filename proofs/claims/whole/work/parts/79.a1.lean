/-! MEASURE: jumps lead on -/
def pz (D : List IT) : Prop := ∀ x, x ∈ D → ¬ x.1 = 10 ∧ ¬ x.1 = 11 ∧ ¬ x.1 = 13
theorem pz.app {D E : List IT} (h : pz D) (h2 : pz E) : pz (D ++ E) := fun x hx => (List.mem_append.mp hx).elim (h x) (h2 x)
theorem pz.nil : pz [] := fun x hx => by cases hx
theorem pz.i {o a b c : Int32} (h : ¬ o = 10 ∧ ¬ o = 11 ∧ ¬ o = 13) : pz [j3 o a b c] := fun y hy => by rw [List.mem_singleton.mp hy]; exact h
theorem pz.i1 {o a : Int32} (h : ¬ o = 10 ∧ ¬ o = 11 ∧ ¬ o = 13) : pz [j1 o a] := fun y hy => by rw [List.mem_singleton.mp hy]; exact h
theorem cE_z (F : List ND) (σ : RS) : ∀ N n, pz (cE F σ N n)
  | 0, n => pz.nil
  | N + 1, n => by
    have ih := cE_z F σ N
    have cl : ∀ (f : Int32) (L : List Nat) (j : Nat), pz (clA f (cE F σ N) L j) := by
      intro f L
      induction L with
      | nil => intro j; exact pz.nil
      | cons c L ihL =>
        intro j
        show pz (cE F σ N c ++ ((if f = 3 ∧ 1 ≤ j then [j1 7 (if j = 1 then 24 else 23)] else []) ++ clA f (cE F σ N) L (j + 1)))
        refine (ih c).app (pz.app ?_ (ihL _))
        split
        · exact pz.i1 (by decide)
        · exact pz.nil
    have ow : ∀ (b f0 k : Nat), pz (cOw σ b f0 k) := by
      intro b f0 k
      induction k with
      | zero => exact pz.nil
      | succ k ihk =>
        show pz ((if (vD σ (f0 + k)).1 = 1 then [j3 6 (nI b) (vD σ (f0 + k)).2.2.2 0] else []) ++ cOw σ b f0 k)
        refine pz.app ?_ ihk
        split
        · exact pz.i (by decide)
        · exact pz.nil
    unfold cE
    split
    · exact pz.i1 (by decide)
    split
    · exact pz.i1 (by decide)
    split
    · exact (ih _).app (pz.i (by decide))
    split
    · refine (cl _ _ _).app ?_
      unfold clZ
      split
      · split
        · exact pz.i1 (by decide)
        split
        · exact pz.nil
        split
        · exact pz.nil
        · split
          · exact pz.i1 (by decide)
          · exact pz.i1 (by decide)
      · exact (ow _ _ _).app (pz.app (D := [_]) (pz.i (by decide)) (pz.i (by decide)))
    split
    · exact (ih _).app ((ih _).app (pz.i1 (by decide)))
    split
    · exact (ih _).app (pz.i1 (by decide))
    · exact pz.i1 (by decide)
theorem rgL_z (F : List ND) (σ : RS) (own : Int32) : ∀ (L : List Nat) (j : Nat), pz (rgL F σ own L j)
  | [], j => pz.nil
  | r :: L, j => by
    unfold rgL
    refine pz.app (pz.app (D := [_]) (pz.i1 (by decide)) (pz.i1 (by decide))) (pz.app ?_ (pz.app ?_ (rgL_z F σ own L (j + 1))))
    · split
      · exact pz.i1 (by decide)
      · exact pz.app (D := [_]) (pz.i1 (by decide)) (pz.app (D := [_]) (pz.i1 (by decide)) (pz.app (D := [_]) (pz.i1 (by decide)) (pz.app (D := [_]) (pz.i1 (by decide)) (pz.i1 (by decide)))))
    · split
      · exact pz.i1 (by decide)
      · exact pz.nil
/-- an instruction at q leads on, up to P -/
def fz (P q : Nat) (x : IT) : Prop := (x.2.2.2.2.1 = 0 → (x.1 = 10 ∨ x.1 = 11) → ∃ k, q < k ∧ k ≤ P ∧ x.2.1 = nI k) ∧ (x.1 = 13 → ∃ k, q < k ∧ k ≤ P ∧ x.2.2.1 = nI k) ∧ (¬ x.2.2.2.2.1 = 0 → x.1 = 10)
def FW (P : Nat) (D : List IT) (p : Nat) : Prop := ∀ i x, D[i]? = some x → fz P (p + i) x
theorem FW.app {P : Nat} {D E : List IT} {p : Nat} (h : FW P D p) (h2 : FW P E (p + D.length)) : FW P (D ++ E) p := by
  intro i x hx
  rcases Nat.lt_or_ge i D.length with w | w
  · rw [List.getElem?_append_left w] at hx
    exact h i x hx
  · rw [List.getElem?_append_right w] at hx
    have := h2 _ x hx
    rw [show p + D.length + (i - D.length) = p + i by omega] at this
    exact this
theorem FW.nil {P p : Nat} : FW P [] p := fun i x hx => by simp at hx
theorem FW.one {P p : Nat} {y : IT} (h : fz P p y) : FW P [y] p := fun i x hx => by
  cases i with
  | zero => rw [List.getElem?_cons_zero] at hx; rw [← Option.some.inj hx]; exact h
  | succ i => simp at hx
theorem FW.mo {P P' p : Nat} {D : List IT} (h : FW P D p) (hp : P ≤ P') : FW P' D p := fun i x hx => by
  obtain ⟨a, b, c⟩ := h i x hx
  refine ⟨fun z y => ?_, fun z => ?_, c⟩
  · obtain ⟨k, k1, k2, k3⟩ := a z y; exact ⟨k, k1, by omega, k3⟩
  · obtain ⟨k, k1, k2, k3⟩ := b z; exact ⟨k, k1, by omega, k3⟩
theorem pz.f {P p : Nat} {D : List IT} (h : pz D) (h0 : mk0 D) : FW P D p := fun i x hx => by
  have xm := List.mem_of_getElem? hx
  obtain ⟨a, b, c⟩ := h x xm
  exact ⟨fun _ z => z.elim (fun w => absurd w a) (fun w => absurd w b), fun z => absurd z c, fun z => absurd (h0 x xm) z⟩
/-- what waits is aimed behind all -/
theorem FW.aim {μ P p : Nat} {D : List IT} (h : FW P D p) (hp : p + D.length ≤ P) : FW P (res μ (nI P) D) p := fun i x hx => by
  unfold res at hx
  rw [List.getElem?_map] at hx
  cases hq : D[i]? with
  | none => rw [hq] at hx; cases hx
  | some y =>
    rw [hq] at hx
    have hx : rs1 μ (nI P) y = x := Option.some.inj hx
    have il := (List.getElem?_eq_some_iff.mp hq).1
    obtain ⟨a, b, c⟩ := h i y hq
    rw [← hx]
    unfold rs1
    by_cases q : y.2.2.2.2.1 = μ
    · rw [if_pos q]
      exact ⟨fun _ _ => ⟨P, by omega, Nat.le_refl _, rfl⟩, b, fun z => absurd rfl z⟩
    · rw [if_neg q]
      exact ⟨a, b, c⟩
theorem wy_f {n P : Nat} {bd : Nat → Nat → List IT} {b : Nat} (hb : ∀ p, FW (p + (bd b p).length) (bd b p) p) (mo : Bool) (p : Nat) (hP : p + (wy n bd b mo p).length ≤ P) : FW P (wy n bd b mo p) p := by
  have wl : (wy n bd b mo p).length = 1 + (bd b (p + 1)).length + (if mo = true then 1 else 0) := by
    unfold wy
    rw [List.length_cons, List.length_append]
    split
    · rw [List.length_singleton]; omega
    · rw [List.length_nil]; omega
  rw [wl] at hP
  unfold wy
  refine FW.app (D := [_]) (FW.one ⟨fun _ _ => ⟨p + 1 + (bd b (p + 1)).length + (if mo = true then 1 else 0), by omega, by omega, rfl⟩, fun z => absurd z (by show ¬ (11 : Int32) = 13; decide), fun z => absurd rfl z⟩) ?_
  rw [List.length_singleton]
  refine ((hb (p + 1)).mo (by omega)).app ?_
  split
  · exact FW.one ⟨fun z => by have z : mE n = 0 := z; unfold mE at z; omega, fun z => absurd z (by show ¬ (10 : Int32) = 13; decide), fun _ => rfl⟩
  · exact FW.nil
theorem wIf_f {n P : Nat} {e : Nat → List IT} {bd : Nat → Nat → List IT} (he : ∀ c, pz (e c) ∧ mk0 (e c)) : ∀ (k : Nat) (L : List Nat) (p : Nat), L.length ≤ k → (∀ b, b ∈ L → ∀ p, FW (p + (bd b p).length) (bd b p) p) → p + (wIf n e bd L p).length ≤ P → FW P (wIf n e bd L p) p := by
  intro k
  induction k with
  | zero =>
    intro L p hk _ _
    rw [List.length_eq_zero_iff.mp (show L.length = 0 by omega)]
    exact FW.nil
  | succ k ih =>
    intro L p hk hb hP
    match L, hk, hb, hP with
    | [], _, _, _ => exact FW.nil
    | [b], _, hb, hP =>
      have hP : p + (bd b p).length ≤ P := hP
      exact (hb b List.mem_cons_self p).mo hP
    | g :: b :: L, hk, hb, hP =>
      have es : wIf n e bd (g :: b :: L) p = e g ++ (wy n bd b (!L.isEmpty) (p + (e g).length) ++ wIf n e bd L (p + (e g).length + (wy n bd b (!L.isEmpty) (p + (e g).length)).length)) := rfl
      rw [es] at hP ⊢
      rw [List.length_append, List.length_append] at hP
      refine ((he g).1.f (he g).2).app ((wy_f (hb b (List.mem_cons_of_mem _ List.mem_cons_self)) _ _ (by omega)).app ?_)
      exact ih L _ (by simp at hk; omega) (fun z hz => hb z (List.mem_cons_of_mem _ (List.mem_cons_of_mem _ hz))) (by omega)
theorem wCs_f {F : List ND} {σ : RS} {n P : Nat} {bd : Nat → Nat → List IT} : ∀ (L : List Nat) (p : Nat), (∀ c, c ∈ L → (σ.2.2.1 c = 11 → ∀ p, FW (p + (bd c p).length) (bd c p) p) ∧ (¬ σ.2.2.1 c = 11 → ∀ p, FW (p + (bd (lsK F c) p).length) (bd (lsK F c) p) p)) → p + (wCs F σ n bd L p).length ≤ P → FW P (wCs F σ n bd L p) p
  | [], p, _, _ => FW.nil
  | c :: L, p, hb, hP => by
    have hc := hb c List.mem_cons_self
    have hL := fun x hx => hb x (List.mem_cons_of_mem c hx)
    unfold wCs at hP ⊢
    by_cases q : σ.2.2.1 c = 11
    · rw [if_pos q] at hP ⊢
      rw [List.length_append] at hP
      exact ((hc.1 q p).mo (by omega)).app (wCs_f L _ hL (by omega))
    · rw [if_neg q] at hP ⊢
      rw [List.length_append, List.length_append] at hP
      exact ((rgL_z F σ _ _ _).f (rgL_0 F σ _ _ _)).app ((wy_f (hc.2 q) _ _ (by omega)).app (wCs_f L _ hL (by omega)))
theorem seq_f {f : Nat → Nat → List IT} : ∀ (L : List Nat) (p P : Nat), (∀ c, c ∈ L → ∀ p, FW (p + (f c p).length) (f c p) p) → p + (seqC f L p).length ≤ P → FW P (seqC f L p) p
  | [], p, P, _, _ => FW.nil
  | c :: L, p, P, h, hP => by
    have es : seqC f (c :: L) p = f c p ++ seqC f L (p + (f c p).length) := rfl
    rw [es] at hP ⊢
    rw [List.length_append] at hP
    exact ((h c List.mem_cons_self p).mo (by omega)).app (seq_f L _ P (fun x hx => h x (List.mem_cons_of_mem _ hx)) (by omega))
theorem wB_f {m0 : yM} {T : Nat} {J : JV} {s : SU} (hS : HS m0 T J.2.2.1 s) : ∀ (N ℓ n p : Nat), TW m0 T J.2.2.1 N n → FW (p + (wB J.2.2.1 s.1 N ℓ n p).length) (wB J.2.2.1 s.1 N ℓ n p) p := by
  intro N
  induction N with
  | zero => intro ℓ n p h; exact absurd h (fun z => z)
  | succ N ih =>
    intro ℓ n p hW
    refine seq_f (kids J.2.2.1 n) p _ (fun c hc p => ?_) (Nat.le_refl _)
    have z := hW.kin hc
    have hWc := hW.2.2.2.2.2.2 c hc
    have e0 := fun c => And.intro (cE_z J.2.2.1 s.1 N c) (cE_0 J.2.2.1 s.1 N c)
    have k37 := hS.1.2.1 c z.2.2.2.1
    have kq : ∀ q, q < 30 → (s.1.2.2.1 c = nI q → kK J.2.2.1 c = q) := by
      intro q hq y
      rcases hS.ks z.2.2.2.1 with w | ⟨w, -⟩
      · rw [w] at y; exact (nI_eq (by omega) (by omega)).mp y
      · rw [w] at y
        have := (nI_eq (a := 30) (by omega) (by omega)).mp (show nI 30 = nI q from y)
        omega
    have bdy : ∀ ℓ' c', c < c' → c' < c + szF J.2.2.1 c → ∀ p, FW (p + (wB J.2.2.1 s.1 N ℓ' c' p).length) (wB J.2.2.1 s.1 N ℓ' c' p) p := by
      intro ℓ' c' q1 q2 p
      obtain ⟨M, hM1, hM2⟩ := TW.all N c hWc c' (by omega) q2
      exact ih ℓ' c' p (hM2.le hM1)
    have iv : ∀ L, pz (wIv J.2.2.1 s.1 (cE J.2.2.1 s.1 N) L) ∧ mk0 (wIv J.2.2.1 s.1 (cE J.2.2.1 s.1 N) L) := by
      intro L
      induction L with
      | nil => exact ⟨pz.nil, mk0.nil⟩
      | cons c L ih => exact ⟨(e0 _).1.app ((pz.i1 (by decide)).app ih.1), (e0 _).2.app ((mk0.i rfl).app ih.2)⟩
    generalize hD : wT J.2.2.1 s.1 (cE J.2.2.1 s.1 N) (wB J.2.2.1 s.1 N) ℓ c p = D
    unfold wT at hD
    by_cases c12 : s.1.2.2.1 c = 12
    · rw [if_pos c12] at hD
      rw [← hD]
      split
      · exact ((e0 _).1.app ((e0 _).1.app (pz.i (by decide)))).f ((e0 _).2.app ((e0 _).2.app (mk0.i rfl)))
      · exact ((e0 _).1.app (pz.i1 (by decide))).f ((e0 _).2.app (mk0.i rfl))
    rw [if_neg c12] at hD
    by_cases c13 : s.1.2.2.1 c = 13
    · rw [if_pos c13] at hD
      rw [← hD]
      refine ((iv _).1.app ?_).f ((iv _).2.app (fun x hx => ?_))
      · split
        · exact pz.i (by decide)
        · exact pz.i (by decide)
      · rw [List.mem_singleton.mp hx]
        split <;> rfl
    rw [if_neg c13] at hD
    by_cases c15 : s.1.2.2.1 c = 15
    · rw [if_pos c15] at hD
      rw [← hD, res_len]
      refine FW.aim (wIf_f e0 _ _ _ (Nat.le_refl _) (fun b hb => ?_) (Nat.le_refl _)) (Nat.le_refl _)
      have zb := hWc.kin hb
      exact bdy ℓ b zb.1 zb.2.1
    rw [if_neg c15] at hD
    by_cases c16 : s.1.2.2.1 c = 16
    · rw [if_pos c16] at hD
      rw [← hD, res_len]
      have kc := kq 16 (by omega) c16
      refine FW.aim ?_ (Nat.le_refl _)
      refine ((e0 _).1.f (e0 _).2).app ((pz.i1 (by decide)).f (mk0.i rfl) |>.app ?_)
      rw [List.length_singleton]
      refine wCs_f _ _ (fun b hb => ?_) (by simp only [List.length_append, List.length_singleton]; omega)
      have okc := hWc.ok
      rw [kc] at okc
      obtain ⟨-, e1, cs, s1, o1, o2, o3, o4⟩ := okc
      have kb' : kK J.2.2.1 b ∈ cs ++ s1 := by
        have : kK J.2.2.1 b ∈ ((kids J.2.2.1 c).tail).map (kK J.2.2.1) := List.mem_map_of_mem hb
        rw [List.map_tail, o4] at this
        exact this
      have hb := List.mem_of_mem_tail hb
      have zb := hWc.kin hb
      refine ⟨fun _ => bdy ℓ b zb.1 zb.2.1, fun q => ?_⟩
      have k17 : kK J.2.2.1 b = 17 := by
        rcases List.mem_append.mp kb' with w | w
        · exact o2 _ w
        · exfalso
          apply q
          have k11 : kK J.2.2.1 b = 11 := by
            rcases o3 with y | y
            · rw [y] at w; cases w
            · rw [y] at w; exact List.mem_singleton.mp w
          rcases hS.ks zb.2.2.2.1 with y | ⟨y, w⟩
          · rw [y, k11]; rfl
          · omega
      obtain ⟨M, hM⟩ := hS.1.1 b zb.2.2.2.1
      obtain ⟨-, -, -, bm, -, -⟩ := k17_s hM k17
      have zl := hM.kin bm
      exact bdy ℓ _ (by omega) (by omega)
    rw [if_neg c16] at hD
    by_cases c19 : s.1.2.2.1 c = 19
    · rw [if_pos c19] at hD
      have kc := kq 19 (by omega) c19
      obtain ⟨-, -, -, k11, bm⟩ := k19_s hS hWc kc
      have zb := hWc.kin bm
      have hq := bdy c _ zb.1 zb.2.1 (p + 4)
      rw [← hD, res_len]
      generalize hB : wB J.2.2.1 s.1 N c (bdF s.1 c) (p + 4) = B at *
      have el : (fr1 s.1 c ++ (((13, s.1.2.2.2.2 c, nI (p + 9 + B.length), 0, 0, 0) : IT) :: (B ++ fr2 s.1 c p))).length = 9 + B.length := by
        rw [List.length_append, List.length_cons, List.length_append]
        show 3 + (B.length + 5 + 1) = _
        omega
      rw [el, show p + 9 + B.length = p + (9 + B.length) by omega] at *
      have f1 : pz (fr1 s.1 c) := pz.app (D := [_]) (pz.i1 (by decide)) (pz.app (D := [_]) (pz.i1 (by decide)) (pz.i (by decide)))
      have f1' : mk0 (fr1 s.1 c) := mk0.app (D := [_]) (mk0.i rfl) (mk0.app (D := [_]) (mk0.i rfl) (mk0.i rfl))
      have f2 : pz (fr2 s.1 c p) := pz.app (D := [_]) (pz.i1 (by decide)) (pz.app (D := [_]) (pz.i1 (by decide)) (pz.app (D := [_]) (pz.i1 (by decide)) (pz.app (D := [_]) (pz.i1 (by decide)) (pz.i1 (by decide)))))
      have f2' : mk0 (fr2 s.1 c p) := mk0.app (D := [_]) (mk0.i rfl) (mk0.app (D := [_]) (mk0.i rfl) (mk0.app (D := [_]) (mk0.i rfl) (mk0.app (D := [_]) (mk0.i rfl) (mk0.i rfl))))
      refine FW.aim ((f1.f f1').app (FW.app (D := [_]) (FW.one ⟨fun _ w => ?_, fun _ => ⟨p + (9 + B.length), ?_, Nat.le_refl _, rfl⟩, fun w => absurd rfl w⟩) ?_)) (by rw [List.length_append, List.length_cons, List.length_append]; show p + (3 + (B.length + 5 + 1)) ≤ _; omega)
      · rcases w with w | w
        · exact absurd w (by show ¬ (13 : Int32) = 10; decide)
        · exact absurd w (by show ¬ (13 : Int32) = 11; decide)
      · show p + 3 < _
        omega
      · show FW _ _ (p + 3 + 1)
        exact (hq.mo (by omega)).app (f2.f f2')
    rw [if_neg c19] at hD
    by_cases c20 : s.1.2.2.1 c = 20
    · rw [if_pos c20] at hD
      rw [← hD]
      exact FW.one ⟨fun w => by have w : mX ℓ = 0 := w; unfold mX at w; omega, fun w => absurd w (by show ¬ (10 : Int32) = 13; decide), fun _ => rfl⟩
    · rw [if_neg c20] at hD
      rw [← hD]
      exact (pz.i1 (by decide)).f (mk0.i rfl)
