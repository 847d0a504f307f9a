/-! THE WRITERS: loops and ranges, what their nodes are -/
theorem HS.cn {m0 : yM} {T : Nat} {J : JV} {s : SU} (hS : HS m0 T J.2.2.1 s) {i : Nat} (hi : i < J.2.2.1.length) (k : cnK (kK J.2.2.1 i)) : CN J s.1 i ∧ szF J.2.2.1 i = 1 := by
  obtain ⟨M, hM⟩ := hS.1.1 i hi
  have ok := hM.ok
  have nch : ¬ chv (kK J.2.2.1 i) := by rcases k with y | y <;> rw [y] <;> decide
  have vt : vtF J.2.2.1 i = 0 := by
    rcases k with y | y
    · rw [y] at ok; exact ok.1
    · rw [y] at ok; exact ok.1
  refine ⟨⟨hi, k, ?_, vt, hS.2.2.1.1.1.2.2.1 i hi nch⟩, (hM.leaf (by rcases k with y | y <;> rw [y] <;> rfl)).1⟩
  rcases hS.ks hi with y | ⟨y, z⟩
  · exact y
  · unfold cnK at k; omega
theorem k19_s {m0 : yM} {T : Nat} {J : JV} {s : SU} (hS : HS m0 T J.2.2.1 s) {N n : Nat} (hW : TW m0 T J.2.2.1 N n) (k : kK J.2.2.1 n = 19) : FR J s.1 n ∧ (kids J.2.2.1 n)[0]? = some (n + 1) ∧ (kids J.2.2.1 n)[(kids J.2.2.1 n).length - 1]? = some (bdF s.1 n) ∧ kK J.2.2.1 (bdF s.1 n) = 11 ∧ bdF s.1 n ∈ kids J.2.2.1 n := by
  have ok := hW.ok
  rw [k] at ok
  obtain ⟨-, a, b, s', ha, hb', hs, eks⟩ := ok
  have kd := hW.kdN
  cases hq : kids J.2.2.1 n with
  | nil => rw [hq] at eks; cases eks
  | cons c1 L =>
    cases L with
    | nil => rw [hq] at eks; cases (List.cons.inj eks).2
    | cons c2 L =>
      have e1 := kd.1 c1 (by rw [hq]; rfl)
      have e2 := kd.2 0 c1 c2 (by rw [hq]; rfl) (by rw [hq]; rfl)
      have g1 : c1 ∈ kids J.2.2.1 n := by rw [hq]; exact List.mem_cons_self
      have g2 : c2 ∈ kids J.2.2.1 n := by rw [hq]; exact List.mem_cons_of_mem _ List.mem_cons_self
      rw [hq] at eks
      have f1 : kK J.2.2.1 c1 = a := (List.cons.inj eks).1
      have f2 : kK J.2.2.1 c2 = b := (List.cons.inj (List.cons.inj eks).2).1
      have f3 : L.map (kK J.2.2.1) = s' ++ [11] := (List.cons.inj (List.cons.inj eks).2).2
      obtain ⟨l1a, l1⟩ := hS.cn (hW.kin g1).2.2.2.1 (by rw [f1]; exact ha)
      obtain ⟨l2a, l2⟩ := hS.cn (hW.kin g2).2.2.2.1 (by rw [f2]; exact hb')
      have E1 : c1 = n + 1 := by omega
      have E2 : c2 = n + 2 := by omega
      cases L with
      | nil => rcases hs with rfl | ⟨x, -, rfl⟩ <;> cases f3
      | cons c3 L =>
        have e3 := kd.2 1 c2 c3 (by rw [hq]; rfl) (by rw [hq]; rfl)
        have g3 : c3 ∈ kids J.2.2.1 n := by rw [hq]; simp
        have E3 : c3 = n + 3 := by omega
        have z3 := hW.kin g3
        rcases hs with rfl | ⟨x, hx, rfl⟩
        · obtain ⟨f4, f5⟩ := List.cons.inj f3
          have L0 : L = [] := by simpa using f5
          subst L0
          subst E1 E2 E3
          have kk : s.1.2.2.1 (n + 3) = 11 := by
            rcases hS.ks z3.2.2.2.1 with w | ⟨w, q⟩
            · rw [w, f4]; rfl
            · omega
          have eb : bdF s.1 n = n + 3 := by unfold bdF; rw [if_pos kk]
          rw [eb]
          exact ⟨⟨l1a, l2a, Or.inl ⟨hq, kk, z3.2.2.2.1⟩⟩, rfl, rfl, f4, by simp⟩
        · obtain ⟨f4, f5⟩ := List.cons.inj f3
          cases L with
          | nil => cases f5
          | cons c4 L =>
            obtain ⟨f6, f7⟩ := List.cons.inj f5
            have L0 : L = [] := by simpa using f7
            subst L0
            have e4 := kd.2 2 c3 c4 (by rw [hq]; rfl) (by rw [hq]; rfl)
            have g4 : c4 ∈ kids J.2.2.1 n := by rw [hq]; simp
            obtain ⟨l3a, l3⟩ := hS.cn z3.2.2.2.1 (by rw [f4]; exact hx)
            have E4 : c4 = n + 4 := by omega
            have z4 := hW.kin g4
            subst E1 E2 E3 E4
            have kk : ¬ s.1.2.2.1 (n + 3) = 11 := by
              rw [l3a.2.2.1, f4]
              rcases hx with y | y <;> rw [y] <;> decide
            have eb : bdF s.1 n = n + 4 := by unfold bdF; rw [if_neg kk]
            rw [eb]
            exact ⟨⟨l1a, l2a, Or.inr ⟨hq, l3a, z4.2.2.2.1⟩⟩, rfl, rfl, f6, by simp⟩
theorem wB_q {m0 : yM} {T : Nat} {J : JV} {s : SU} (hS : HS m0 T J.2.2.1 s) : ∀ (N ℓ n p : Nat), TW m0 T J.2.2.1 N n → ℓ < n → ∀ x, x ∈ wB J.2.2.1 s.1 N ℓ n p → QX J.2.2.1 ℓ n (p + (wB J.2.2.1 s.1 N ℓ n p).length) x := by
  intro N
  induction N with
  | zero => intro ℓ n p h; exact absurd h (fun z => z)
  | succ N ih =>
    intro ℓ n p hW ℓn
    refine seq_q (Z := fun P x => QX J.2.2.1 ℓ n P x) (fun P P' x hp h => h.mo (Nat.le_refl _) (Nat.le_refl _) hp) (kids J.2.2.1 n) p (fun c hc p x hx => ?_)
    have z := hW.kin hc
    have hWc := hW.2.2.2.2.2.2 c hc
    refine QX.mo (c := c) ?_ (by omega) z.2.2.1 (Nat.le_refl _)
    have e0 := cE_p J.2.2.1 s.1 N
    have k37 := hS.1.2.1 c z.2.2.2.1
    have kq : ∀ q, q < 30 → (s.1.2.2.1 c = nI q → kK J.2.2.1 c = q) := by
      intro q hq y
      rcases hS.ks z.2.2.2.1 with w | ⟨w, -⟩
      · rw [w] at y; exact (nI_eq (by omega) (by omega)).mp y
      · rw [w] at y
        have := (nI_eq (a := 30) (by omega) (by omega)).mp (show nI 30 = nI q from y)
        omega
    have bdy : ∀ ℓ' c', ℓ' < c' → c < c' → c' < c + szF J.2.2.1 c → ∀ p x, x ∈ wB J.2.2.1 s.1 N ℓ' c' p → QX J.2.2.1 ℓ' c' (p + (wB J.2.2.1 s.1 N ℓ' c' p).length) x := by
      intro ℓ' c' q0 q1 q2 p
      obtain ⟨M, hM1, hM2⟩ := TW.all N c hWc c' (by omega) q2
      exact ih ℓ' c' p (hM2.le hM1) q0
    have iv : ∀ L, pl (wIv J.2.2.1 s.1 (cE J.2.2.1 s.1 N) L) := by
      intro L
      induction L with
      | nil => exact pl.nil
      | cons c L ih => exact (e0 _).app ((pl.i1 (by decide)).app ih)
    have hx' := hx
    unfold wT at hx
    by_cases c12 : s.1.2.2.1 c = 12
    · rw [if_pos c12] at hx
      refine pl.q (D := wT J.2.2.1 s.1 (cE J.2.2.1 s.1 N) (wB J.2.2.1 s.1 N) ℓ c p) ?_ x hx'
      unfold wT
      rw [if_pos c12]
      split
      · exact (e0 _).app ((e0 _).app (pl.i (by decide)))
      · exact (e0 _).app (pl.i1 (by decide))
    rw [if_neg c12] at hx
    by_cases c13 : s.1.2.2.1 c = 13
    · refine pl.q (D := wT J.2.2.1 s.1 (cE J.2.2.1 s.1 N) (wB J.2.2.1 s.1 N) ℓ c p) ?_ x hx'
      unfold wT
      rw [if_neg c12, if_pos c13]
      refine (iv _).app ?_
      split
      · exact pl.i (by decide)
      · exact pl.i (by decide)
    rw [if_neg c13] at hx
    by_cases c15 : s.1.2.2.1 c = 15
    · rw [if_pos c15] at hx
      have el : (wT J.2.2.1 s.1 (cE J.2.2.1 s.1 N) (wB J.2.2.1 s.1 N) ℓ c p).length = (wIf c (cE J.2.2.1 s.1 N) (wB J.2.2.1 s.1 N ℓ) (kids J.2.2.1 c) p).length := by
        unfold wT
        rw [if_neg c12, if_neg c13, if_pos c15, res_len]
      rw [el]
      refine QE.res (fun y hy => wIf_q e0 _ _ _ (Nat.le_refl _) (fun b hb => ?_) (Nat.le_refl _) y hy) x hx
      have zb := hWc.kin hb
      exact ⟨⟨by omega, zb.2.2.1⟩, bdy ℓ b (by omega) zb.1 zb.2.1⟩
    rw [if_neg c15] at hx
    by_cases c16 : s.1.2.2.1 c = 16
    · rw [if_pos c16] at hx
      have el : (wT J.2.2.1 s.1 (cE J.2.2.1 s.1 N) (wB J.2.2.1 s.1 N) ℓ c p).length = (cE J.2.2.1 s.1 N (c + 1) ++ ([j1 2 (s.1.2.2.2.2 c)] ++ wCs J.2.2.1 s.1 c (wB J.2.2.1 s.1 N ℓ) (kids J.2.2.1 c).tail (p + (cE J.2.2.1 s.1 N (c + 1)).length + 1))).length := by
        unfold wT
        rw [if_neg c12, if_neg c13, if_neg c15, if_pos c16, res_len]
      rw [el]
      have kc := kq 16 (by omega) c16
      refine QE.res (fun y hy => ?_) x hx
      rcases List.mem_append.mp hy with w | w
      · exact Or.inl ((e0 _).q y w)
      · rcases List.mem_append.mp w with w | w
        · exact Or.inl (pl.q (pl.i1 (by decide)) y w)
        · refine wCs_q _ _ (fun b hb => ?_) ?_ y w
          · have okc := hWc.ok
            rw [kc] at okc
            obtain ⟨-, e1, cs, s1, o1, o2, o3, o4⟩ := okc
            have kb' : kK J.2.2.1 b ∈ cs ++ s1 := by
              have : kK J.2.2.1 b ∈ ((kids J.2.2.1 c).tail).map (kK J.2.2.1) := List.mem_map_of_mem hb
              rw [List.map_tail, o4] at this
              exact this
            have hb := List.mem_of_mem_tail hb
            have zb := hWc.kin hb
            refine ⟨fun _ => ⟨⟨by omega, zb.2.2.1⟩, bdy ℓ b (by omega) zb.1 zb.2.1⟩, fun q => ?_⟩
            have k17 : kK J.2.2.1 b = 17 := by
              rcases List.mem_append.mp kb' with w | w
              · exact o2 _ w
              · exfalso
                apply q
                have k11 : kK J.2.2.1 b = 11 := by
                  rcases o3 with y | y
                  · rw [y] at w; cases w
                  · rw [y] at w; exact List.mem_singleton.mp w
                rcases hS.ks zb.2.2.2.1 with y | ⟨y, w⟩
                · rw [y, k11]; rfl
                · omega
            obtain ⟨M, hM⟩ := hS.1.1 b zb.2.2.2.1
            obtain ⟨-, -, -, bm, -, -⟩ := k17_s hM k17
            have zl := hM.kin bm
            exact ⟨⟨by omega, by omega⟩, bdy ℓ _ (by omega) (by omega) (by omega)⟩
          · simp only [List.length_append, List.length_singleton]
            omega
    rw [if_neg c16] at hx
    by_cases c19 : s.1.2.2.1 c = 19
    · rw [if_pos c19] at hx
      have kc := kq 19 (by omega) c19
      obtain ⟨-, -, -, k11, bm⟩ := k19_s hS hWc kc
      have zb := hWc.kin bm
      generalize hb : bdF s.1 c = b at *
      have hq := bdy c b zb.1 zb.1 zb.2.1 (p + 4)
      generalize hB : wB J.2.2.1 s.1 N c b (p + 4) = B at *
      have el : (wT J.2.2.1 s.1 (cE J.2.2.1 s.1 N) (wB J.2.2.1 s.1 N) ℓ c p).length = 9 + B.length := by
        unfold wT
        rw [if_neg c12, if_neg c13, if_neg c15, if_neg c16, if_pos c19, res_len, hb, hB, List.length_append, List.length_cons, List.length_append]
        show 3 + (B.length + 5 + 1) = _
        omega
      rw [el]
      obtain ⟨y, y1, y2⟩ := List.mem_map.mp hx
      have f1 : pl (fr1 s.1 c) := pl.app (D := [_]) (pl.i1 (by decide)) (pl.app (D := [_]) (pl.i1 (by decide)) (pl.i (by decide)))
      have f2 : pl (fr2 s.1 c p) := pl.app (D := [_]) (pl.i1 (by decide)) (pl.app (D := [_]) (pl.i1 (by decide)) (pl.app (D := [_]) (pl.i1 (by decide)) (pl.app (D := [_]) (pl.i1 (by decide)) (pl.i1 (by decide)))))
      have plain : (¬ y.1 = 10 ∧ y.2.2.2.2.1 = 0 ∧ y.2.2.2.2.2 = 0) → QX J.2.2.1 ℓ c (p + (9 + B.length)) x := by
        rintro ⟨w1, w2, w3⟩
        rw [← y2]
        unfold rs1
        rw [if_neg (by rw [w2]; unfold mX; omega)]
        exact ⟨fun _ v => absurd v w1, Or.inl ⟨w3, w2⟩⟩
      rcases List.mem_append.mp y1 with w | w
      · exact plain (f1 y w)
      · rcases List.mem_cons.mp w with w | w
        · refine plain ?_
          rw [w]
          exact ⟨by show ¬ (13 : Int32) = 10; decide, rfl, rfl⟩
        · rcases List.mem_append.mp w with w | w
          · obtain ⟨a1, a2⟩ := hq y w
            rw [← y2]
            unfold rs1
            rcases a2 with ⟨b1, b2⟩ | ⟨b1, b2, b3⟩ | ⟨b1, b2, b3⟩
            · rw [if_neg (by rw [b2]; unfold mX; omega)]
              refine ⟨fun v1 v2 => ?_, Or.inl ⟨b1, b2⟩⟩
              obtain ⟨k, k1, k2⟩ := a1 v1 v2
              exact ⟨k, by omega, k2⟩
            · rw [if_pos b2]
              refine ⟨fun _ _ => ⟨p + 9 + B.length, by omega, rfl⟩, Or.inr (Or.inr ⟨?_, ?_, rfl⟩)⟩
              · show c ≤ y.2.2.2.2.2; omega
              · show y.2.2.2.2.2 < c + szF J.2.2.1 c; omega
            · rw [if_neg (by rw [b3]; unfold mX; omega)]
              refine ⟨fun v1 v2 => ?_, Or.inr (Or.inr ⟨by omega, by omega, b3⟩)⟩
              obtain ⟨k, k1, k2⟩ := a1 v1 v2
              exact ⟨k, by omega, k2⟩
          · exact plain (f2 y w)
    rw [if_neg c19] at hx
    by_cases c20 : s.1.2.2.1 c = 20
    · rw [if_pos c20] at hx
      rw [List.mem_singleton.mp hx]
      exact ⟨fun v => by have v : mX ℓ = 0 := v; unfold mX at v; omega, Or.inr (Or.inl ⟨rfl, rfl, rfl⟩)⟩
    · rw [if_neg c20] at hx
      exact pl.q (pl.i1 (by decide)) x hx
