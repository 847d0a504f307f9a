/-! THE REFERENCE'S WRITER: bodies -/
def Gp (F : List ND) (ℓ n : Nat) : Prop := (ℓ = 0 → gX F n) ∧ (¬ ℓ = 0 → ∃ k, wk F ℓ k n)
theorem Gp.kid {m0 : yM} {T : Nat} {F : List ND} (hH : HW m0 T F) {ℓ n c : Nat} (hn : n < F.length) (h : Gp F ℓ n) (k : ¬ kK F n = 19) (hc : c ∈ kids F n) (kc : ¬ kK F c = 19) : Gp F ℓ c := by
  obtain ⟨M, hM⟩ := hH n hn
  refine ⟨fun z => (h.1 z).kid hH hM k hc, fun z => ?_⟩
  obtain ⟨q, hq⟩ := h.2 z
  exact ⟨q + 1, kc, n, hn, hc, hq⟩
theorem c370 (xs : List Int32) (d : Nat) {m0 : yM} {T : Nat} {J : JV} {s : SU} (hY : HY m0 T J.2.2.1 s) {u : Nat} : ∀ (N ℓ n : Nat), TW m0 T J.2.2.1 N n → kK J.2.2.1 n = 11 → ℓ < n → Gp J.2.2.1 ℓ n → bodR xs (d + 3 * N + 8) J s u (wB J.2.2.1 s.1 N ℓ) n := by
  have hS := hY.1.1
  intro N
  induction N with
  | zero => intro ℓ n h; exact absurd h (fun z => z)
  | succ N ih =>
    intro ℓ n hW k11 ℓn hg C m h
    have at' := hW.at
    have hn : n < J.2.2.1.length := by omega
    have hu := h.2.2.1
    have h0 := h.1
    have ok := hW.ok
    rw [k11] at ok
    have n19 : ¬ kK J.2.2.1 n = 19 := by omega
    -- one statement
    have st : ∀ c, c ∈ kids J.2.2.1 n → staR xs (d + 3 * N + 10) J s u (wT J.2.2.1 s.1 (cE J.2.2.1 s.1 N) (wB J.2.2.1 s.1 N) ℓ c) c := by
      intro c hc
      have z := hW.kin hc
      have hWc := hW.2.2.2.2.2.2 c hc
      have kst := ok.2 (kK J.2.2.1 c) (List.mem_map_of_mem hc)
      have inn : ∀ c', c < c' → c' < c + szF J.2.2.1 c → TW m0 T J.2.2.1 N c' := fun c' q1 q2 => by
        obtain ⟨M, hM1, hM2⟩ := TW.all N c hWc c' (by omega) q2
        exact hM2.le hM1
      refine c371 xs (d + 3 * N + 5) hY hWc (by omega) kst (fun c' w q1 q2 C m h1 h2 => yC.mono (show d + 2 * N + 3 ≤ d + 3 * N + 5 + 3 by omega) (fun _ _ q => q) (c372 xs d hY N c' (inn c' q1 q2) w C m h1 h2)) (fun b bb kb => ⟨fun k19 => ?_, fun nk => ?_⟩) (fun k20 => ?_) (fun ℓ' b q0 q1 q2 p x hx => wB_q hS N ℓ' b p (inn b q1 q2) q0 x hx)
      · have bm : b ∈ kids J.2.2.1 c := by
          rcases bb with y | ⟨c', y1, y2, y3⟩
          · exact y
          · exfalso
            have kk := hWc.kid y1
            rw [k19, y2] at kk
            exact absurd kk (by decide)
        have zb := hWc.kin bm
        exact ih c b (inn b zb.1 zb.2.1) kb zb.1 ⟨fun w => by omega, fun _ => ⟨1, by omega, c, z.2.2.2.1, bm, rfl, k19⟩⟩
      · have gc := hg.kid hS.1.1 hn n19 hc nk
        rcases bb with bm | ⟨c', c1, c2, rfl⟩
        · have zb := hWc.kin bm
          exact ih ℓ b (inn b zb.1 zb.2.1) kb (by omega) (gc.kid hS.1.1 z.2.2.2.1 nk bm (by omega))
        · have z1 := hWc.kin c1
          obtain ⟨M, hM⟩ := hS.1.1 c' z1.2.2.2.1
          obtain ⟨-, -, -, lm, -, -⟩ := k17_s hM c2
          have zl := hM.kin lm
          have g1 := gc.kid hS.1.1 z.2.2.2.1 nk c1 (by omega)
          exact ih ℓ _ (inn _ (by omega) (by omega)) kb (by omega) (g1.kid hS.1.1 z1.2.2.2.1 (by omega) lm (by omega))
      · have nl : ¬ ℓ = 0 := fun w => by
          have := ((hg.1 w).kid hS.1.1 hW n19 hc).no z.2.2.2.2
          exact this k20
        obtain ⟨q, hq⟩ := hg.2 nl
        exact ⟨nl, q, n, hn, hc, hq⟩
    have lp : ∀ (L : List Nat) (j : Nat) (C1 : List IT) (m1 : yM), (kids J.2.2.1 n).drop j = L → WR J s u C1 m1 → KF m m1 → yP (xg xs) (d + 3 * N + 11) 370 7 [(0, .ref 58), (2, .int (lkI J.2.2.2 (kids J.2.2.1 n)[j]?))] [] m1 (fun r m' => r = none ∧ RO J (C1 ++ seqC (wT J.2.2.1 s.1 (cE J.2.2.1 s.1 N) (wB J.2.2.1 s.1 N) ℓ) L (C1.length - u)) m' ∧ KF m m') := by
      intro L
      induction L with
      | nil =>
        intro j C1 m1 ed w1 e1
        have : (kids J.2.2.1 n)[j]? = none := by
          have := congrArg List.length ed
          rw [List.length_drop, List.length_nil] at this
          exact List.getElem?_eq_none_iff.mpr (by omega)
        rw [this]
        refine w370_7 xs (d + 3 * N + 10) _ m1 _ ⟨fun _ => ⟨rfl, ?_, e1⟩, fun w => absurd rfl w⟩
        show RO J (C1 ++ []) m1
        rw [List.append_nil]; exact w1.2.1
      | cons c L ihL =>
        intro j C1 m1 ed w1 e1
        obtain ⟨d1, d2, d3⟩ := drop_s ed
        have cm := List.mem_of_getElem? d1
        have cl := (hW.kin cm).2.2.2.1
        have ls : lkI J.2.2.2 (some c) = nI (J.2.2.2 c) := rfl
        have u1 := w1.2.2.1
        rw [d1, ls]
        refine w370_7 xs (d + 3 * N + 10) _ m1 _ ⟨fun w => absurd w (nI_ne1 (w1.1.t.i cl)), fun _ => yC.mono (Nat.le_refl _) (fun r m2 q => ⟨q.1, w1.1.t.x cl, ?_⟩) (st c cm C1 m1 w1)⟩
        have e2 := e1.tr q.2.2
        have w2 := w1.kf q.2.2 q.2.1 (by rw [List.length_append]; omega)
        rw [w1.1.t.c cl, (((h0.kf e2).t.2.1 n hn).2.2.2.2.2.2.2.2 j c d1).2.2]
        have := ihL (j + 1) _ m2 d2 w2 e2
        generalize wT J.2.2.1 s.1 (cE J.2.2.1 s.1 N) (wB J.2.2.1 s.1 N) ℓ = f at *
        have pl' : (C1 ++ f c (C1.length - u)).length - u = C1.length - u + (f c (C1.length - u)).length := by rw [List.length_append]; omega
        rw [pl', List.append_assoc] at this
        exact this
    refine w370_0 xs (d + 3 * N + 10) _ m _ ⟨h0.t.x hn, ?_⟩
    rw [h0.t.c hn, (h0.t.2.1 n hn).2.2.2.2.2.1]
    exact lp (kids J.2.2.1 n) 0 C m rfl h (KF.re m)
