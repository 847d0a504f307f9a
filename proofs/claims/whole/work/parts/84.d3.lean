/-! THE PURE MACHINE IS SAFE: statements -/
/-- cells that statements of these nodes may write: of variables, own ones -/
def WWc (σ : RS) (b lo hi : Nat) (r : Nat) : Prop := (∃ v, vIn σ b v ∧ vC σ v ≤ r ∧ r < vC σ v + vZ σ v) ∨ ∃ j, lo ≤ j ∧ j < hi ∧ (σ.2.2.1 j = 16 ∨ σ.2.2.1 j = 19) ∧ σ.2.2.2.2 j = nI r
theorem WWc.mo {σ : RS} {b lo hi lo' hi' : Nat} (h1 : lo' ≤ lo) (h2 : hi ≤ hi') : ∀ r, WWc σ b lo hi r → WWc σ b lo' hi' r := fun r h => h.imp id (fun ⟨j, a, b, c⟩ => ⟨j, by omega, by omega, c⟩)
/-- statements: their instructions, the stack as it was -/
def sG (σ : RS) (u : Nat) (W : Nat → Prop) (C : List IT) : Prop := itA σ u W C ∧ hT C 0 0
section SG
variable {σ : RS} {u : Nat} {W : Nat → Prop}
theorem sG.nil : sG σ u W [] := ⟨itA.nil, hT.nil⟩
theorem sG.app {C E : List IT} (h : sG σ u W C) (h2 : sG σ u W E) : sG σ u W (C ++ E) := ⟨h.1.app h2.1, h.2.app h2.2⟩
theorem sG.mo {W' : Nat → Prop} {C : List IT} (h : sG σ u W C) (hW : ∀ r, W r → W' r) : sG σ u W' C := ⟨h.1.mo hW, h.2⟩
theorem sG.rs {μ : Nat} {v : Int32} {C : List IT} (hμ : ¬ μ = 0) (h : sG σ u W C) : sG σ u W (res μ v C) := ⟨h.1.rs hμ, h.2.rs⟩
theorem seqC_G {f : Nat → Nat → List IT} : ∀ (L : List Nat) (p : Nat), (∀ c, c ∈ L → ∀ p, sG σ u W (f c p)) → sG σ u W (seqC f L p)
  | [], p, _ => sG.nil
  | c :: L, p, h => (h c List.mem_cons_self p).app (seqC_G L _ (fun x hx => h x (List.mem_cons_of_mem _ hx)))
theorem wy_G {n : Nat} {bd : Nat → Nat → List IT} {b : Nat} {mo : Bool} {p : Nat} (h : sG σ u W (bd b (p + 1))) : itA σ u W (wy n bd b mo p) ∧ hT (wy n bd b mo p) 1 0 := by
  unfold wy
  have l : itA σ u W (if mo = true then [((10, 0, 0, 0, mE n, 0) : IT)] else []) ∧ hT (if mo = true then [((10, 0, 0, 0, mE n, 0) : IT)] else []) 0 0 := by
    split
    · exact ⟨fun y hy => by rw [List.mem_singleton.mp hy]; exact ⟨itS_n (o := 10) rfl (by decide), fun _ => rfl⟩, hT.i rfl⟩
    · exact ⟨itA.nil, hT.nil⟩
  exact ⟨itA.co (itS_n (o := 11) rfl (by decide)) rfl (h.1.app l.1), hT.co rfl (h.2.app l.2)⟩
theorem wIf_G {n : Nat} {e : Nat → List IT} {bd : Nat → Nat → List IT} : ∀ (k : Nat) (L : List Nat) (p : Nat), L.length ≤ k → (∀ b, b ∈ L → ∀ p, sG σ u W (bd b p)) → (∀ c, c ∈ L → itA σ u W (e c) ∧ hT (e c) 0 1) → sG σ u W (wIf n e bd L p) := by
  intro k
  induction k with
  | zero =>
    intro L p hk _ _
    rw [List.length_eq_zero_iff.mp (show L.length = 0 by omega)]
    exact sG.nil
  | succ k ih =>
    intro L p hk hb he
    match L, hk, hb, he with
    | [], _, _, _ => exact sG.nil
    | [b], _, hb, _ => exact hb b List.mem_cons_self p
    | g :: b :: L, hk, hb, he =>
      have es : wIf n e bd (g :: b :: L) p = e g ++ (wy n bd b (!L.isEmpty) (p + (e g).length) ++ wIf n e bd L (p + (e g).length + (wy n bd b (!L.isEmpty) (p + (e g).length)).length)) := rfl
      rw [es]
      have w := wy_G (n := n) (mo := !L.isEmpty) (hb b (List.mem_cons_of_mem _ List.mem_cons_self) (p + (e g).length + 1))
      have g0 := he g List.mem_cons_self
      have r := ih L (p + (e g).length + (wy n bd b (!L.isEmpty) (p + (e g).length)).length) (by simp at hk; omega) (fun z hz => hb z (List.mem_cons_of_mem _ (List.mem_cons_of_mem _ hz))) (fun z hz => he z (List.mem_cons_of_mem _ (List.mem_cons_of_mem _ hz)))
      exact ⟨g0.1.app (w.1.app r.1), g0.2.app (w.2.app r.2)⟩
theorem rgL_G {F : List ND} {own : Int32} {c : Nat} (e : own = nI c) (hc : c < cN σ u) : ∀ (L : List Nat) (j : Nat), itA σ u W (rgL F σ own L j) ∧ (1 ≤ j → hT (rgL F σ own L j) 1 1) ∧ (¬ L = [] → j = 0 → hT (rgL F σ own L j) 0 1)
  | [], j => ⟨itA.nil, fun _ => hT.nil, fun z => absurd rfl z⟩
  | r :: L, j => by
    have l1 : ∀ a : Int32, itS σ u W (j1 1 a) ∨ ¬ a = own := fun a => by
      by_cases q : a = own
      · exact Or.inl (itS_1 rfl (show (j1 1 a).2.1 = nI c by rw [← e, ← q]; rfl) hc)
      · exact Or.inr q
    have l1 : itS σ u W (j1 1 own) := (l1 own).resolve_right (fun z => z rfl)
    have i7 : ∀ {a : Int32}, 0 ≤ a ∧ a ≤ 24 → itS σ u W (j1 7 a) := fun h => itS_7 rfl h
    have i0 : ∀ {a : Int32}, itS σ u W (j1 0 a) := itS_n (o := 0) rfl (by decide)
    obtain ⟨ih1, ih2, ih3⟩ := rgL_G (F := F) e hc L (j + 1)
    unfold rgL
    have M1 : itA σ u W (if szF F r = 2 then [j1 7 13] else [j1 7 18, j1 1 own, j1 0 (σ.2.2.2.1 (r + 2)), j1 7 17, j1 7 10]) ∧ ∀ h, hT (if szF F r = 2 then [j1 7 13] else [j1 7 18, j1 1 own, j1 0 (σ.2.2.2.1 (r + 2)), j1 7 17, j1 7 10]) (h + 2) (h + 1) := by
      split
      · exact ⟨itA.i (i7 (by decide)) rfl, fun h => hT.i (hS_7 h)⟩
      · exact ⟨itA.co (i7 (by decide)) rfl (itA.co l1 rfl (itA.co i0 rfl (itA.co (i7 (by decide)) rfl (itA.i (i7 (by decide)) rfl)))), fun h => hT.co (hS_7 h) (hT.co (hS_1 (h + 1)) (hT.co (hS_0 (h + 2)) (hT.co (hS_7 (h + 1)) (hT.i (hS_7 h)))))⟩
    have M0 : itA σ u W [j1 1 own, j1 0 (σ.2.2.2.1 (r + 1))] ∧ ∀ h, hT [j1 1 own, j1 0 (σ.2.2.2.1 (r + 1))] h (h + 2) := ⟨itA.co l1 rfl (itA.i i0 rfl), fun h => hT.co (hS_1 h) (hT.i (hS_0 (h + 1)))⟩
    refine ⟨M0.1.app (M1.1.app (itA.app ?_ ih1)), fun hj => ?_, fun _ hj => ?_⟩
    · split
      · exact itA.i (i7 (by decide)) rfl
      · exact itA.nil
    · rw [if_pos hj]
      exact (M0.2 1).app ((M1.2 1).app ((hT.i (hS_7 0)).app (ih2 (by omega))))
    · rw [if_neg (show ¬ 1 ≤ j by omega)]
      exact (M0.2 0).app ((M1.2 0).app (hT.nil.app (ih2 (by omega))))
theorem wCs_G {F : List ND} {n : Nat} {bd : Nat → Nat → List IT} {c0 : Nat} (e : σ.2.2.2.2 n = nI c0) (hc : c0 < cN σ u) : ∀ (L : List Nat) (p : Nat), (∀ c, c ∈ L → (σ.2.2.1 c = 11 → ∀ p, sG σ u W (bd c p)) ∧ (¬ σ.2.2.1 c = 11 → ¬ rgK F c = [] ∧ ∀ p, sG σ u W (bd (lsK F c) p))) → sG σ u W (wCs F σ n bd L p)
  | [], p, _ => sG.nil
  | c :: L, p, h => by
    obtain ⟨h1, h2⟩ := h c List.mem_cons_self
    have r := fun p => wCs_G e hc L p (fun x hx => h x (List.mem_cons_of_mem _ hx))
    unfold wCs
    by_cases q : σ.2.2.1 c = 11
    · rw [if_pos q]
      exact (h1 q p).app (r _)
    · rw [if_neg q]
      obtain ⟨g1, g2⟩ := h2 q
      have w := fun p => wy_G (n := n) (mo := !L.isEmpty) (g2 (p + 1))
      have gg := rgL_G (W := W) (F := F) e hc (rgK F c) 0
      exact ⟨gg.1.app ((w _).1.app (r _).1), (gg.2.2 g1 rfl).app ((w _).2.app (r _).2)⟩
theorem wIv_G {F : List ND} {e : Nat → List IT} : ∀ (L : List Nat), (∀ c, c ∈ L → (itA σ u W (e (c + 1)) ∧ hT (e (c + 1)) 0 1) ∧ itS σ u W (j1 2 (σ.2.2.2.1 c))) → sG σ u W (wIv F σ e L)
  | [], _ => sG.nil
  | c :: L, h => by
    obtain ⟨⟨h1, h2⟩, h3⟩ := h c List.mem_cons_self
    have r := wIv_G (F := F) L (fun x hx => h x (List.mem_cons_of_mem _ hx))
    exact ⟨h1.app ((itA.i h3 rfl).app r.1), h2.app ((hT.i (hS_2 0)).app r.2)⟩
end SG
theorem rgK_ne {m0 : yM} {T : Nat} {F : List ND} {N c : Nat} (h : TW m0 T F N c) (k : kK F c = 17) : ¬ rgK F c = [] := by
  have ok := h.ok
  rw [k] at ok
  obtain ⟨-, r, -, r2, r3, -⟩ := ok
  obtain ⟨e, -⟩ := k17_s h k
  intro z
  have l : (kids F c).length = r.length + 1 := by
    have := congrArg List.length r3
    rw [List.length_map, List.length_append] at this
    exact this
  have l2 : (kids F c).length = (rgK F c).length + 1 := by
    have := congrArg List.length e
    rw [List.length_append] at this
    exact this
  rw [z] at l2
  have l2 : (kids F c).length = 0 + 1 := l2
  exact r2 (List.length_eq_zero_iff.mp (by omega))
/-- an own cell -/
theorem UQ.o {m0 : yM} {T : Nat} {F : List ND} {s : SU} {b : Nat} (h : UQ m0 T F s b) {j : Nat} (h1 : nB s b ≤ j) (h2 : j < nB s b + szF F (nB s b)) (k : s.1.2.2.1 j = 16 ∨ s.1.2.2.1 j = 19) : ∃ c, s.1.2.2.2.2 j = nI c ∧ c < cN s.1 b := by
  obtain ⟨c0, d, f, a1, a2, a3, a4, a5, -⟩ := h.2.2.2.2.1 b h.2.2.1 (by simp)
  obtain ⟨g1, g2, g3⟩ := a5 j h1 h2 k
  have ed : cN s.1 b = d := by unfold cN; rw [a1, nI_clamp (by omega)]
  exact ⟨f j, g1, by omega⟩
/-- a text alone -/
abbrev jvF (F : List ND) : JV := ([], [], F, fun _ => 0)
theorem wT_G {m0 : yM} {T : Nat} {F : List ND} {s : SU} {b : Nat} (h : UQ m0 T F s b) {N : Nat} (ih : ∀ (ℓ n p : Nat), TW m0 T F N n → nB s b ≤ n → n + szF F n ≤ nB s b + szF F (nB s b) → sG s.1 b (WWc s.1 b n (n + szF F n)) (wB F s.1 N ℓ n p)) {n : Nat} (hW : TW m0 T F (N + 1) n) (hlo : nB s b ≤ n) (hhi : n + szF F n ≤ nB s b + szF F (nB s b)) {c : Nat} (hc : c ∈ kids F n) (ℓ p : Nat) : sG s.1 b (WWc s.1 b c (c + szF F c)) (wT F s.1 (cE F s.1 N) (wB F s.1 N) ℓ c p) := by
    have hS := h.hs
    have n37 := h.n37
    have h16 := h.2.1
    have hbl := h.2.2.1
    have z := hW.kin hc
    have hWc := hW.2.2.2.2.2.2 c hc
    have inn : ∀ c', c < c' → c' < c + szF F c → TW m0 T F N c' ∧ c' + szF F c' ≤ c + szF F c := fun c' q1 q2 => by
      obtain ⟨M', hM1, hM2⟩ := TW.all N c hWc c' (by omega) q2
      exact ⟨hM2.le hM1, TW.inn N c hWc c' (by omega) q2⟩
    have e0 : ∀ c', c < c' → c' < c + szF F c → ¬ xNm F c' → itA s.1 b (WWc s.1 b c (c + szF F c)) (cE F s.1 N c') ∧ ∀ hh, hT (cE F s.1 N c') hh (hh + 1) := fun c' q1 q2 nx => by
      obtain ⟨i1, i2⟩ := inn c' q1 q2
      obtain ⟨g1, g2⟩ := cE_G h N c' i1 (by omega) (by omega) nx
      exact ⟨g1.mo (fun r w => w.elim), g2⟩
    have kq : ∀ q, q < 30 → (s.1.2.2.1 c = nI q → kK F c = q) := fun q hq y => h.kk z.2.2.2.1 (by omega) (by omega) y
    have body : ∀ (ℓ b' q : Nat), c < b' → b' < c + szF F c → sG s.1 b (WWc s.1 b c (c + szF F c)) (wB F s.1 N ℓ b' q) := by
      intro ℓ b' q q1 q2
      obtain ⟨i1, i2⟩ := inn b' q1 q2
      exact (ih ℓ b' q i1 (by omega) (by omega)).mo (WWc.mo (by omega) (by omega))
    have cin : ∀ j, c ≤ j → j < c + szF F c → c31 F s.1 j b := fun j j1 j2 => h.c (by omega) (by omega) (by have := hWc.at; omega)
    have scal : ∀ j, c ≤ j → j < c + szF F c → (∃ v, s.1.2.2.2.1 j = nI v ∧ vIn s.1 b v) → gdV s.1 j 8 → itS s.1 b (WWc s.1 b c (c + szF F c)) (j1 2 (clV s.1 j)) ∧ itS s.1 b (WWc s.1 b c (c + szF F c)) (j1 1 (clV s.1 j)) := by
      intro j j1 j2 hv hg
      obtain ⟨v, v1, v2, v3, v4⟩ := h.g hv hg
      obtain ⟨cc, zz, a1, a2, a3, a4, a5, -⟩ := h.v v3
      have := a5 v4
      have ecl : clV s.1 j = nI cc := by unfold clV; rw [v2]; exact a1
      exact ⟨itS_2 (Or.inl rfl) ecl (by omega) n37 (Or.inl ⟨v, v3, by omega, by omega⟩), itS_1 rfl ecl (by omega)⟩
    have okc := hWc.ok
    unfold wT
    by_cases c12 : s.1.2.2.1 c = 12
    · rw [if_pos c12]
      have kc := kq 12 (by omega) c12
      rw [kc] at okc
      obtain ⟨-, a, b', ha, hb', eks⟩ := okc
      obtain ⟨q1, q2, q3, q4, q5⟩ := hWc.k2 eks
      have m1 : c + 1 ∈ kids F c := by rw [q1]; exact List.mem_cons_self
      have m2 : c + 1 + szF F (c + 1) ∈ kids F c := by rw [q1]; exact List.mem_cons_of_mem _ List.mem_cons_self
      have z1 := hWc.kin m1
      have z2 := hWc.kin m2
      have y2 := e0 _ z2.1 z2.2.1 (hS.kid hWc z.2.2.2.1 m2 (by omega) (by rw [q3]; exact hb')).2.2
      by_cases k32 : s.1.2.2.1 (c + 1) = 32
      · rw [if_pos k32]
        have k32' := h.kk (n := c + 1) (k := 32) z1.2.2.2.1 (by omega) (by omega) k32
        obtain ⟨M', hM'⟩ := hS.1.1 (c + 1) z1.2.2.2.1
        have ok1 := hM'.ok
        rw [k32'] at ok1
        obtain ⟨-, a', ha', eks'⟩ := ok1
        obtain ⟨r1, r2, r3, r4⟩ := hM'.k1 eks'
        have mm : c + 1 + 1 ∈ kids F (c + 1) := by rw [r1]; exact List.mem_cons_self
        have zz := hM'.kin mm
        have y1 := e0 (c + 2) (by omega) (by omega) (hS.kid hM' z1.2.2.2.1 mm (by omega) (by rw [r2]; exact ha')).2.2
        obtain ⟨v0, w1, w2, -⟩ := (cin (c + 1) (by omega) (by omega)).1 (Or.inr (Or.inl k32'))
        obtain ⟨v, v1, v2, v3, v4⟩ := h.g ⟨v0, w1, w2⟩ ((hS.v z1.2.2.2.1).2.1 k32')
        obtain ⟨cc, sz, a1, a2, a3, a4, -, a6, -⟩ := h.v v3
        rw [v2]
        exact ⟨y1.1.app (y2.1.app (itA.i (itS_4 rfl a1 (a6 v4) n37 (by omega) (fun r r1 r2 => Or.inl ⟨v, v3, by omega, by omega⟩)) rfl)), (y1.2 0).app ((y2.2 1).app (hT.i (hS_4 0)))⟩
      · rw [if_neg k32]
        have k6 : kK F (c + 1) = 6 := by
          rcases ha with w | w
          · rw [q2]; exact w
          · exfalso
            rcases hS.ks z1.2.2.2.1 with y | ⟨y, y'⟩
            · rw [q2, w] at y; exact k32 y
            · omega
        have nx := (hS.kid hWc z.2.2.2.1 m1 (by omega) (by rw [k6]; unfold exK; decide)).2.2
        obtain ⟨v0, w1, w2, -⟩ := (cin (c + 1) (by omega) (by omega)).1 (Or.inl ⟨k6, nx⟩)
        obtain ⟨sc, -⟩ := scal (c + 1) (by omega) (by omega) ⟨v0, w1, w2⟩ ((hS.v z1.2.2.2.1).1 k6 nx)
        exact ⟨y2.1.app (itA.i sc rfl), (y2.2 0).app (hT.i (hS_2 0))⟩
    rw [if_neg c12]
    by_cases c13 : s.1.2.2.1 c = 13
    · rw [if_pos c13]
      have kc := kq 13 (by omega) c13
      rw [kc] at okc
      obtain ⟨v0, w1, w2, w3⟩ := (cin c (by omega) (by omega)).1 (Or.inr (Or.inr (Or.inr kc)))
      have l0 := h.vlt w2
      obtain ⟨v, v1, v2, v3, v4⟩ := h.g ⟨v0, w1, w2⟩ ((hS.v z.2.2.2.1).2.2.1 kc)
      have l1 := h.vlt v3
      rw [w1] at v1
      have := (nI_eq (by omega) (by omega)).mp v1
      subst this
      obtain ⟨cc, sz, a1, a2, a3, a4, -, -, a7⟩ := h.v v3
      obtain ⟨k, k1, k2⟩ := a7 v4
      refine sG.app (wIv_G _ (fun x hx => ?_)) ?_
      · have zx := hWc.kin hx
        have k14 := hWc.mk okc.2 hx
        obtain ⟨M', hM'⟩ := hS.1.1 x zx.2.2.2.1
        have okx := hM'.ok
        rw [k14] at okx
        obtain ⟨-, a, ha, eks⟩ := okx
        obtain ⟨r1, r2, r3, r4⟩ := hM'.k1 eks
        have mm : x + 1 ∈ kids F x := by rw [r1]; exact List.mem_cons_self
        have zk := hM'.kin mm
        have y1 := e0 (x + 1) (by omega) (by omega) (hS.kid hM' zx.2.2.2.1 mm (by omega) (by rw [r2]; exact ha)).2.2
        obtain ⟨y, e1, e2, e3, e4⟩ := w3 kc x hx
        exact ⟨⟨y1.1, y1.2 0⟩, itS_2 (Or.inl rfl) e1 (by omega) n37 (Or.inl ⟨v0, w2, e3, e4⟩)⟩
      · rw [v2]
        have ecl : clV s.1 c = nI cc := by unfold clV; rw [v2]; exact a1
        have k1 : s.1.2.2.2.1 (vD s.1 v0).2.1 = nI k := k1
        rw [k1]
        rcases k2 with ⟨k3, k4⟩ | ⟨k3, k4, k5⟩
        · rw [if_neg (fun w => by have := (nI_leI (a := 9) (by omega) (by omega)).mp w; omega)]
          exact ⟨itA.i (itS_17 rfl rfl k3 ecl n37 (by omega) (fun r r1 r2 => Or.inl ⟨v0, w2, by omega, by omega⟩)) rfl, hT.i rfl⟩
        · rw [if_pos (show (9 : Int32) ≤ nI k from nI_le (a := 9) k3 (by omega))]
          have e9 : nI k - 9 = nI (k - 9) := by rw [show (9 : Int32) = nI 9 from rfl, nI_sub k3]
          exact ⟨itA.i (itS_15 rfl e9 k4 ecl (by omega) n37 (by omega) (fun r r1 r2 => Or.inl ⟨v0, w2, by omega, by omega⟩)) rfl, hT.i rfl⟩
    rw [if_neg c13]
    by_cases c15 : s.1.2.2.1 c = 15
    · rw [if_pos c15]
      have kc := kq 15 (by omega) c15
      refine sG.rs (by unfold mE; omega) (wIf_G _ _ _ (Nat.le_refl _) (fun b' hb' q => body ℓ b' q (hWc.kin hb').1 (hWc.kin hb').2.1) (fun x hx => ?_))
      have zx := hWc.kin hx
      have nx : ¬ xNm F x := by
        rw [kc] at okc
        rcases okc_15 okc (List.mem_map_of_mem hx) with w | w
        · exact fun y => by have := y.1; omega
        · exact (hS.kid hWc z.2.2.2.1 hx (by omega) w).2.2
      have y1 := e0 x zx.1 zx.2.1 nx
      exact ⟨y1.1, y1.2 0⟩
    rw [if_neg c15]
    by_cases c16 : s.1.2.2.1 c = 16
    · rw [if_pos c16]
      have kc := kq 16 (by omega) c16
      rw [kc] at okc
      obtain ⟨-, e1, cs, s1, o1, o2, o3, o4⟩ := okc
      obtain ⟨g1, g2, g3⟩ := hWc.k0 o4
      have z1 := hWc.kin g2
      have y1 := e0 _ z1.1 z1.2.1 (hS.kid hWc z.2.2.2.1 g2 (by omega) (by rw [g3]; exact o1)).2.2
      obtain ⟨co, co1, co2⟩ := h.o (j := c) (by omega) (by omega) (Or.inl c16)
      refine sG.rs (by unfold mE; omega) ?_
      have w := wCs_G (W := WWc s.1 b c (c + szF F c)) (F := F) (n := c) (bd := wB F s.1 N ℓ) co1 co2 (kids F c).tail (p + (cE F s.1 N (c + 1)).length + 1) (fun b' hb => ?_)
      · exact ⟨y1.1.app ((itA.i (itS_2 (Or.inl rfl) co1 co2 n37 (Or.inr ⟨c, Nat.le_refl _, by omega, Or.inl c16, co1⟩)) rfl).app w.1), (y1.2 0).app ((hT.i (hS_2 0)).app w.2)⟩
      · have kb' : kK F b' ∈ cs ++ s1 := by
          have : kK F b' ∈ ((kids F c).tail).map (kK F) := List.mem_map_of_mem hb
          rw [List.map_tail, o4] at this
          exact this
        have hb := List.mem_of_mem_tail hb
        have zb := hWc.kin hb
        have k1711 : kK F b' = 17 ∨ kK F b' = 11 := by
          rcases List.mem_append.mp kb' with w | w
          · exact Or.inl (o2 _ w)
          · rcases o3 with y | y
            · rw [y] at w; cases w
            · rw [y] at w; exact Or.inr (List.mem_singleton.mp w)
        refine ⟨fun _ q => body ℓ b' q zb.1 zb.2.1, fun q => ?_⟩
        have k17 : kK F b' = 17 := by
          rcases k1711 with w | w
          · exact w
          · exfalso
            apply q
            rcases hS.ks zb.2.2.2.1 with y | ⟨y, w'⟩
            · rw [y, w]; rfl
            · omega
        obtain ⟨M', hM'⟩ := hS.1.1 b' zb.2.2.2.1
        obtain ⟨-, -, k11, bm, -, -⟩ := k17_s hM' k17
        have zl := hM'.kin bm
        exact ⟨rgK_ne hM' k17, fun q => body ℓ _ q (by omega) (by omega)⟩
    rw [if_neg c16]
    by_cases c19 : s.1.2.2.1 c = 19
    · rw [if_pos c19]
      have kc := kq 19 (by omega) c19
      obtain ⟨-, -, -, k11, bm⟩ := k19_s (J := jvF F) hS hWc kc
      have zb := hWc.kin bm
      obtain ⟨co, co1, co2⟩ := h.o (j := c) (by omega) (by omega) (Or.inr c19)
      obtain ⟨v0, w1, w2, -⟩ := (cin c (by omega) (by omega)).1 (Or.inr (Or.inr (Or.inl kc)))
      obtain ⟨s2, s1⟩ := scal c (by omega) (by omega) ⟨v0, w1, w2⟩ ((hS.v z.2.2.2.1).2.2.2.1 kc)
      have bw := body c (bdF s.1 c) (p + 4) zb.1 zb.2.1
      refine sG.rs (by unfold mX; omega) ?_
      have W0 : WWc s.1 b c (c + szF F c) co := Or.inr ⟨c, Nat.le_refl _, by omega, Or.inr c19, co1⟩
      have i0 : ∀ {a : Int32}, itS s.1 b (WWc s.1 b c (c + szF F c)) (j1 0 a) := itS_n (o := 0) rfl (by decide)
      unfold fr1 fr2
      refine ⟨(itA.co i0 rfl (itA.co s2 rfl (itA.i (itS_2 (Or.inr (Or.inl rfl)) co1 co2 n37 W0) rfl))).app (itA.co (itS_2 (Or.inr (Or.inr rfl)) co1 co2 n37 W0) rfl (bw.1.app (itA.co s1 rfl (itA.co i0 rfl (itA.co (itS_7 rfl ?_) rfl (itA.co s2 rfl (itA.i (itS_n (o := 14) rfl (by decide)) rfl))))))), ?_⟩
      · show 0 ≤ (if tyV s.1 (s.1.2.2.2.1 c).toNatClampNeg = 1 then (0 : Int32) else 5) ∧ (if tyV s.1 (s.1.2.2.2.1 c).toNatClampNeg = 1 then (0 : Int32) else 5) ≤ 24
        split <;> decide
      · have t2 : hT [j1 1 (clV s.1 c), j1 0 (stp s.1 c), j1 7 (if tyV s.1 (s.1.2.2.2.1 c).toNatClampNeg = 1 then 0 else 5), j1 2 (clV s.1 c), j1 14 (nI (p + 3))] 0 0 := hT.co (hS_1 0) (hT.co (hS_0 1) (hT.co (hS_7 0) (hT.co (hS_2 0) (hT.i rfl))))
        have tb := bw.2.app t2
        have t0 : hT [j1 0 (s.1.2.2.2.1 (c + 1)), j1 2 (clV s.1 c)] 0 0 := hT.co (hS_0 0) (hT.i (hS_2 0))
        have tl : hT (j3 12 (s.1.2.2.2.2 c) (tms s.1 c).toInt32 0 :: ((13, s.1.2.2.2.2 c, nI (p + 9 + (wB F s.1 N c (bdF s.1 c) (p + 4)).length), 0, 0, 0) :: (wB F s.1 N c (bdF s.1 c) (p + 4) ++ [j1 1 (clV s.1 c), j1 0 (stp s.1 c), j1 7 (if tyV s.1 (s.1.2.2.2.1 c).toNatClampNeg = 1 then 0 else 5), j1 2 (clV s.1 c), j1 14 (nI (p + 3))]))) 0 0 := tb
        exact t0.app tl
    rw [if_neg c19]
    by_cases c20 : s.1.2.2.1 c = 20
    · rw [if_pos c20]
      exact ⟨fun y hy => by rw [List.mem_singleton.mp hy]; exact ⟨itS_n (o := 10) rfl (by decide), fun _ => rfl⟩, hT.i rfl⟩
    · rw [if_neg c20]
      exact ⟨itA.i (itS_n (o := 18) rfl (by decide)) rfl, hT.i rfl⟩
theorem wB_G {m0 : yM} {T : Nat} {F : List ND} {s : SU} {b : Nat} (h : UQ m0 T F s b) : ∀ (N ℓ n p : Nat), TW m0 T F N n → nB s b ≤ n → n + szF F n ≤ nB s b + szF F (nB s b) → sG s.1 b (WWc s.1 b n (n + szF F n)) (wB F s.1 N ℓ n p) := by
  intro N
  induction N with
  | zero => intro ℓ n p hW; exact absurd hW (fun z => z)
  | succ N ih =>
    intro ℓ n p hW hlo hhi
    refine seqC_G (kids F n) p (fun c hc p => ?_)
    have z := hW.kin hc
    exact (wT_G h ih hW hlo hhi hc ℓ p).mo (WWc.mo (by omega) (by omega))
theorem wT_T {m0 : yM} {T : Nat} {F : List ND} {s : SU} {b : Nat} (h : UQ m0 T F s b) {N n : Nat} (hW : TW m0 T F (N + 1) n) (hlo : nB s b ≤ n) (hhi : n + szF F n ≤ nB s b + szF F (nB s b)) {c : Nat} (hc : c ∈ kids F n) (ℓ p : Nat) : hT (wT F s.1 (cE F s.1 N) (wB F s.1 N) ℓ c p) 0 0 := (wT_G h (wB_G h N) hW hlo hhi hc ℓ p).2
