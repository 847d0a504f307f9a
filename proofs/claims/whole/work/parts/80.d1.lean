/-! THE CELLS AT THE BEGIN: the class -/
abbrev vC (σ : RS) (v : Nat) : Nat := ((vD σ v).2.2.2).toNatClampNeg
abbrev vZ (σ : RS) (v : Nat) : Nat := (szT σ (vD σ v).2.1).toNatClampNeg
abbrev vT (σ : RS) (v : Nat) : Int32 := σ.2.2.2.1 (vD σ v).2.1
/-- a variable's cells become what they are at the begin -/
def wrV (σ : RS) (iv : Nat → Nat → Int32) (v : Nat) (M : Nat → Int32) : Nat → Int32 := fun x => if vC σ v ≤ x ∧ x < vC σ v + vZ σ v then (if frm σ v = 10 then (if vT σ v < 9 then 0 else iv (vT σ v - 9).toNatClampNeg (x - vC σ v)) else (vD σ v).2.2.1) else M x
def ivL (σ : RS) (iv : Nat → Nat → Int32) : Nat → Nat → (Nat → Int32) → Nat → Int32
  | 0 => fun _ M => M
  | k + 1 => fun v M => ivL σ iv k (v + 1) (wrV σ iv v M)
def ivB (σ : RS) : Nat → Nat → Nat → Int32
  | 0 => fun _ _ => 0
  | N + 1 => fun b => ivL σ (ivB σ N) (endV σ b - (σ.1.getD b dBK).2.2.2.2) (σ.1.getD b dBK).2.2.2.2 (fun _ => 0)
/-- what is known of where cells lie -/
def HL (m0 : yM) (T : Nat) (F : List ND) (s : SU) : Prop := HS m0 T F s ∧ P26 s ∧ P29 F s ∧ s.1.1.length ≤ 16
theorem HL.v {m0 : yM} {T : Nat} {F : List ND} {s : SU} (h : HL m0 T F s) {b v : Nat} (hb : b < s.1.1.length) (h1 : (s.1.1.getD b dBK).2.2.2.2 ≤ v) (h2 : v < endV s.1 b) : ∃ c z d, (vD s.1 v).2.2.2 = nI c ∧ szT s.1 (vD s.1 v).2.1 = nI z ∧ cB s.1 b = nI d ∧ c + z ≤ d ∧ d ≤ 37052 ∧ vC s.1 v = c ∧ vZ s.1 v = z ∧ v < s.1.2.1.length ∧ vOk s.1 v ∧ (vD s.1 v).2.1 < F.length ∧ ((frm s.1 v = 8 ∧ z = 1) ∨ (frm s.1 v = 9 ∧ vT s.1 v = nI z) ∨ (frm s.1 v = 10 ∧ ∃ k, vT s.1 v = nI k ∧ k < 1000 ∧ (k < 9 ∨ (9 ≤ k ∧ k - 9 < b ∧ cB s.1 (k - 9) = nI z)))) ∧ ∀ w, v < w → w < endV s.1 b → c + z ≤ vC s.1 w ∨ vC s.1 w + vZ s.1 w ≤ c := by
  obtain ⟨hS, h26, h29, h16⟩ := h
  have vl : v < s.1.2.1.length := by have := (hS.fm b hb).2; omega
  have ok := hS.aD v vl
  obtain ⟨-, y, hy⟩ := (vOk_i s.1 v).mp ok
  have ey := vD_s hy
  obtain ⟨c, z, d, g1, g2, g3, g4, g5, -, g7⟩ := h26 b v y hb h1 h2 hy
  obtain ⟨p1, p2, -, -, -⟩ := hS.2.2.1.1.2.2.2.2.2.1 v y hy
  have ks : s.1.2.2.1 y.2.1 = nI (kK F y.2.1) := by
    rcases hS.ks p1 with w | ⟨w, q⟩
    · exact w
    · omega
  have fr : frm s.1 v = nI (kK F y.2.1) := by unfold frm; rw [ey]; exact ks
  refine ⟨c, z, d, by rw [ey]; exact g1, by rw [ey]; exact g2, g3, g4, g5, ?_, ?_, vl, ok, by rw [ey]; exact p1, ?_, fun w w1 w2 => ?_⟩
  · show ((vD s.1 v).2.2.2).toNatClampNeg = c
    rw [ey, g1]; exact nI_clamp (by omega)
  · show (szT s.1 (vD s.1 v).2.1).toNatClampNeg = z
    rw [ey, g2]; exact nI_clamp (by omega)
  · show (frm s.1 v = 8 ∧ z = 1) ∨ (frm s.1 v = 9 ∧ s.1.2.2.2.1 (vD s.1 v).2.1 = nI z) ∨ (frm s.1 v = 10 ∧ ∃ k, s.1.2.2.2.1 (vD s.1 v).2.1 = nI k ∧ k < 1000 ∧ (k < 9 ∨ (9 ≤ k ∧ k - 9 < b ∧ cB s.1 (k - 9) = nI z)))
    rw [fr, ey]
    unfold szT at g2
    rw [ks] at g2
    rcases p2 with k | k | k
    · rw [k] at g2 ⊢
      rw [if_pos (show nI 8 = 8 from rfl)] at g2
      exact Or.inl ⟨rfl, ((nI_eq (a := 1) (by omega) (by omega)).mp g2).symm⟩
    · rw [k] at g2 ⊢
      rw [if_neg (show ¬ nI 9 = 8 by decide), if_pos (show nI 9 = 9 from rfl)] at g2
      exact Or.inr (Or.inl ⟨rfl, g2⟩)
    · obtain ⟨q, q1, q2⟩ := h29 b v y hb h1 h2 hy k
      rw [k] at g2 ⊢
      rw [if_neg (show ¬ nI 10 = 8 by decide), if_neg (show ¬ nI 10 = 9 by decide), q1] at g2
      refine Or.inr (Or.inr ⟨rfl, q, q1, by omega, q2.imp id (fun w => ⟨w.1, w.2, ?_⟩)⟩)
      rw [if_pos (show (9 : Int32) ≤ nI q from nI_le (a := 9) w.1 (by omega)), show (9 : Int32) = nI 9 from rfl, nI_sub w.1, nI_clamp (by omega)] at g2
      exact g2
  · have wl : w < s.1.2.1.length := by have := (hS.fm b hb).2; omega
    obtain ⟨-, y', hy'⟩ := (vOk_i s.1 w).mp (hS.aD w wl)
    obtain ⟨c', z', i1, i2, i3, i4⟩ := g7 w y' w1 w2 hy'
    have ey' := vD_s hy'
    show c + z ≤ ((vD s.1 w).2.2.2).toNatClampNeg ∨ ((vD s.1 w).2.2.2).toNatClampNeg + (szT s.1 (vD s.1 w).2.1).toNatClampNeg ≤ c
    rw [ey', i1, i2, nI_clamp (by omega), nI_clamp (by omega)]
    exact i4
/-- what isn't gone through yet is 0 -/
def Zr (σ : RS) (b v : Nat) (M : Nat → Int32) : Prop := ∀ w, v ≤ w → w < endV σ b → ∀ x, vC σ w ≤ x → x < vC σ w + vZ σ w → M x = 0
theorem Zr.nx {m0 : yM} {T : Nat} {F : List ND} {s : SU} (h : HL m0 T F s) {b v : Nat} (hb : b < s.1.1.length) (h1 : (s.1.1.getD b dBK).2.2.2.2 ≤ v) (h2 : v < endV s.1 b) {M : Nat → Int32} (hz : Zr s.1 b v M) (iv : Nat → Nat → Int32) : Zr s.1 b (v + 1) (wrV s.1 iv v M) := by
  obtain ⟨c, z, d, -, -, -, -, -, c1, z1, -, -, -, -, dj⟩ := h.v hb h1 h2
  intro w w1 w2 x x1 x2
  unfold wrV
  rw [c1, z1, if_neg (fun q => by have := dj w (by omega) w2; omega)]
  exact hz w (by omega) w2 x x1 x2
def K53 (m m' : yM) : Prop := m'.2 = m.2 ∧ ∀ a i, ¬ a = 53 → m'.1 a i = m.1 a i
theorem K53.re (m : yM) : K53 m m := ⟨rfl, fun _ _ _ => rfl⟩
theorem K53.tr {m m1 m2 : yM} (h : K53 m m1) (h2 : K53 m1 m2) : K53 m m2 := ⟨h2.1.trans h.1, fun a i x => (h2.2 a i x).trans (h.2 a i x)⟩
theorem K53.s (m : yM) (i : Nat) (v : Int32) : K53 m (y_si m 53 i v) := ⟨rfl, fun a j x => by rw [y_si_at, if_neg (fun z => x z.1)]⟩
theorem CR.k53 {F : List ND} {σ : RS} {m m' : yM} (h : CR F σ m) (k : K53 m m') : CR F σ m' := h.ek (fun a i ha => k.2 a i (by omega))
theorem c233 (xs : List Int32) (d : Nat) (m : yM) {a z : Nat} (h : a + z ≤ 8192) (v : Int32) : yC (xg xs) (d + 1) 233 [.ref 52, .int (nI a), .int (nI z), .int v] m (fun r m' => r = none ∧ K53 m m' ∧ ∀ x, m'.1 53 x = if a ≤ x ∧ x < a + z then v else m.1 53 x) := by
  have lp : ∀ (k i : Nat) (m1 : yM), i + k = z → K53 m m1 → (∀ x, m1.1 53 x = if a ≤ x ∧ x < a + i then v else m.1 53 x) → yP (xg xs) (d + 1) 233 3 [(0, .ref 52), (1, .int (nI a)), (2, .int (nI z)), (3, .int v), (4, .int (nI i))] [] m1 (fun r m' => r = none ∧ K53 m m' ∧ ∀ x, m'.1 53 x = if a ≤ x ∧ x < a + z then v else m.1 53 x) := by
    intro k
    induction k with
    | zero =>
      intro i m1 hi k1 r1
      have hi : i = z := hi
      subst hi
      exact w233_3 xs d _ _ _ _ m1 _ ⟨fun _ => ⟨rfl, k1, r1⟩, fun q => absurd (nI_le (Nat.le_refl _) (by omega)) q⟩
    | succ k ih =>
      intro i m1 hi k1 r1
      refine w233_3 xs d _ _ _ _ m1 _ ⟨fun q => ?_, fun _ => ?_⟩
      · have := (nI_leI (by omega) (by omega)).mp q
        omega
      · rw [nI_add, nI_1]
        refine y_cv (c234 xs d m1 _ _) (Nat.le_refl _) ?_
        rw [if_pos ⟨nI_le (a := 0) (Nat.zero_le _) (by omega), nI_lt (b := 8192) (by omega) (by omega)⟩, nI_clamp (by omega)]
        refine ih (i + 1) _ (by omega) (k1.tr (K53.s _ _ _)) (fun x => ?_)
        by_cases c : x = a + i
        · rw [c, y_si_same, if_pos ⟨by omega, by omega⟩]
        · rw [y_si_at, if_neg (fun q => c q.2), r1 x]
          by_cases c2 : a ≤ x ∧ x < a + i
          · rw [if_pos c2, if_pos ⟨c2.1, by omega⟩]
          · rw [if_neg c2, if_neg (fun q => c2 ⟨q.1, by omega⟩)]
  refine w233_0 xs d _ _ _ m _ (lp z 0 m (by omega) (K53.re m) (fun x => ?_))
  rw [if_neg (fun q => by omega)]
theorem c232 (xs : List Int32) {m0 : yM} {T : Nat} {F : List ND} {s : SU} (h : HL m0 T F s) : ∀ (N b l fr d D : Nat) (m : yM), b < N → b < s.1.1.length → l + b ≤ 16 → cB s.1 b = nI d → fr + d ≤ 8192 → CR F s.1 m → (∀ x, x < d → m.1 53 (fr + x) = 0) → yC (xg xs) (D + N + 2) 232 [.ref 52, .int (nI b), .int (nI fr), .int (nI l)] m (fun r m' => r = none ∧ K53 m m' ∧ ∀ x, m'.1 53 x = if fr ≤ x ∧ x < fr + d then ivB s.1 N b (x - fr) else m.1 53 x) := by
  have h16 : s.1.1.length ≤ 16 := h.2.2.2
  intro N
  induction N with
  | zero => intro b l fr d D m hN; exact absurd hN (Nat.not_lt_zero _)
  | succ N ih =>
    intro b l fr d D m hN hb hl hd hfr hc h0
    have hBl := hc.nB.2
    obtain ⟨-, -, p26, -, -, -⟩ := hc.b hb
    have fm := h.1.fm b hb
    have v4 := (h.1.2.2.1.1.nb h.1.1 (Nat.le_refl _)).2.1
    have lp : ∀ (k v : Nat) (M : Nat → Int32) (m1 : yM), v + k = endV s.1 b → (s.1.1.getD b dBK).2.2.2.2 ≤ v → Zr s.1 b v M → K53 m m1 → (∀ x, m1.1 53 x = if fr ≤ x ∧ x < fr + d then M (x - fr) else m.1 53 x) → ivL s.1 (ivB s.1 N) k v M = ivB s.1 (N + 1) b → yP (xg xs) (D + (N + 1) + 2) 232 29 [(0, .ref 52), (1, .int (nI b)), (2, .int (nI fr)), (3, .int (nI l)), (4, .int (nI v))] [] m1 (fun r m' => r = none ∧ K53 m m' ∧ ∀ x, m'.1 53 x = if fr ≤ x ∧ x < fr + d then ivB s.1 (N + 1) b (x - fr) else m.1 53 x) := by
      intro k
      induction k with
      | zero =>
        intro v M m1 hv hf hz k1 r1 hiv
        have hv : v = endV s.1 b := hv
        subst hv
        have hiv : M = ivB s.1 (N + 1) b := hiv
        refine w232_29 xs (D + (N + 1) + 1) _ _ _ _ m1 _ (y_ci (c120 xs (D + (N + 1)) (hc.k53 k1) hb) (by omega) ⟨fun _ => ⟨rfl, k1, fun x => ?_⟩, fun q => absurd (nI_le (Nat.le_refl _) (by omega)) q⟩)
        rw [r1 x, hiv]
      | succ k ihk =>
        intro v M m1 hv hf hz k1 r1 hiv
        have vlt : v < endV s.1 b := by omega
        have c1 := hc.k53 k1
        obtain ⟨c, z, d', g1, g2, g3, g4, g5, g6, g7, vl, ok, tl, typ, dj⟩ := h.v hb hf vlt
        have edd : d' = d := (nI_eq (by omega) (by omega)).mp (g3.symm.trans hd)
        subst edd
        obtain ⟨-, y, hy⟩ := (vOk_i s.1 v).mp ok
        have ey := vD_s hy
        have hvv := (c1.2.2.1 v _ (getD_some vl)).2 y hy
        have e20 : m1.1 20 v = nI c := by rw [hvv.2.2.2.1, ← ey]; exact g1
        have e21 : m1.1 21 v = nI (vD s.1 v).2.1 := by rw [hvv.2.1, ← ey]
        have e23 : m1.1 23 v = (vD s.1 v).2.2.1 := by rw [hvv.2.2.1, ← ey]
        have cv : (nI v).toNatClampNeg = v := nI_clamp (by omega)
        have xv : x_in (nI v) 4097 = true := x_in_nI (by omega) (by decide)
        have ea : nI fr + nI c = nI (fr + c) := nI_add ..
        have hz' := hz.nx h hb hf vlt (ivB s.1 N)
        -- the next one
        have nxt : ∀ (m2 : yM), K53 m1 m2 → (∀ x, m2.1 53 x = if fr + c ≤ x ∧ x < fr + c + z then wrV s.1 (ivB s.1 N) v M (x - fr) else m1.1 53 x) → yP (xg xs) (D + (N + 1) + 2) 232 141 [(0, .ref 52), (1, .int (nI b)), (2, .int (nI fr)), (3, .int (nI l)), (4, .int (nI v))] [] m2 (fun r m' => r = none ∧ K53 m m' ∧ ∀ x, m'.1 53 x = if fr ≤ x ∧ x < fr + d' then ivB s.1 (N + 1) b (x - fr) else m.1 53 x) := by
          intro m2 k2 r2
          refine w232_141 xs (D + (N + 1) + 1) _ _ _ _ m2 _ ?_
          rw [nI_1]
          refine ihk (v + 1) (wrV s.1 (ivB s.1 N) v M) m2 (by omega) (by omega) hz' (k1.tr k2) (fun x => ?_) hiv
          rw [r2 x]
          by_cases q : fr + c ≤ x ∧ x < fr + c + z
          · rw [if_pos q, if_pos ⟨by omega, by omega⟩]
          · rw [if_neg q, r1 x]
            by_cases q2 : fr ≤ x ∧ x < fr + d'
            · rw [if_pos q2, if_pos q2]
              unfold wrV
              rw [g6, g7, if_neg (fun w => q ⟨by omega, by omega⟩)]
            · rw [if_neg q2, if_neg q2]
        refine w232_29 xs (D + (N + 1) + 1) _ _ _ _ m1 _ (y_ci (c120 xs (D + (N + 1)) c1 hb) (by omega) ⟨fun q => ?_, fun _ => ⟨xv, y_ci (c135 xs (D + (N + 1)) c1 ok) (by omega) ?_⟩⟩)
        · have := (nI_leI (by omega) (by omega)).mp q
          omega
        rw [cv, e20, ea, e21]
        -- a variable of its own
        have plain : ¬ frm s.1 v = 10 → (¬ s.1.2.2.1 (vD s.1 v).2.1 = 8 → ¬ s.1.2.2.1 (vD s.1 v).2.1 = 9 → blT s.1 (s.1.2.2.2.1 (vD s.1 v).2.1)) → (x_in (nI v) 4097 = true ∧ (yC (xg xs) (D + (N + 1) + 1) 131 [.ref 18, .int (nI (vD s.1 v).2.1)] m1 (fun v6 m6 => ∃ u6, v6 = some (Value.int u6) ∧ (x_in (nI v) 4097 = true ∧ (yC (xg xs) (D + (N + 1) + 1) 233 [.ref 52, .int (nI (fr + c)), .int u6, .int (m6.1 23 v)] m6 (fun v7 m7 => v7 = none ∧ yP (xg xs) (D + (N + 1) + 2) 232 141 [(0, .ref 52), (1, .int (nI b)), (2, .int (nI fr)), (3, .int (nI l)), (4, .int (nI v))] [] m7 (fun r m' => r = none ∧ K53 m m' ∧ ∀ x, m'.1 53 x = if fr ≤ x ∧ x < fr + d' then ivB s.1 (N + 1) b (x - fr) else m.1 53 x))))))) := by
          intro nf hbt
          refine ⟨xv, y_ci (c131 xs (D + (N + 1)) c1 tl hbt) (by omega) ⟨xv, ?_⟩⟩
          rw [g2, e23]
          refine yC.mono (by omega) (fun r m2 q => ⟨q.1, nxt m2 q.2.1 (fun x => ?_)⟩) (c233 xs (D + N) m1 (a := fr + c) (z := z) (by omega) (vD s.1 v).2.2.1)
          rw [q.2.2 x]
          by_cases w : fr + c ≤ x ∧ x < fr + c + z
          · rw [if_pos w, if_pos w]
            unfold wrV
            rw [g6, g7, if_pos ⟨by omega, by omega⟩, if_neg nf]
          · rw [if_neg w, if_neg w]
        rcases typ with ⟨f8, z1⟩ | ⟨f9, t9⟩ | ⟨f10, kq, t10, k1000, hkq⟩
        · refine ⟨fun q => absurd (f8.symm.trans q) (by decide), fun q => ?_⟩
          exact plain q (fun w => absurd f8 w)
        · refine ⟨fun q => absurd (f9.symm.trans q) (by decide), fun q => ?_⟩
          exact plain q (fun _ w => absurd f9 w)
        · refine ⟨fun _ => y_ci (c153 xs (D + (N + 1)) c1 ok) (by omega) ⟨fun q => ?_, fun q => ?_⟩, fun q => absurd f10 q⟩
          · refine nxt m1 (K53.re m1) (fun x => ?_)
            by_cases w : fr + c ≤ x ∧ x < fr + c + z
            · rw [if_pos w, r1 x, if_pos ⟨by omega, by omega⟩]
              unfold wrV
              rw [g6, g7, if_pos ⟨by omega, by omega⟩, if_pos f10, if_pos q]
              exact hz v (Nat.le_refl _) vlt (x - fr) (by rw [g6]; omega) (by rw [g6, g7]; omega)
            · rw [if_neg w]
          · have t10' : s.1.2.2.2.1 (vD s.1 v).2.1 = nI kq := t10
            have g9 : 9 ≤ kq := by
              rcases Nat.lt_or_ge kq 9 with w | w
              · exact absurd (by rw [t10']; exact nI_lt (b := 9) w (by omega)) q
              · exact w
            obtain ⟨-, hk2, hk3⟩ := hkq.resolve_left (by omega)
            refine y_ci (c153 xs (D + (N + 1)) c1 ok) (by omega) ?_
            have es : nI kq - 9 = nI (kq - 9) := by rw [show (9 : Int32) = nI 9 from rfl, nI_sub g9]
            rw [t10', es, nI_1]
            refine yC.mono (by omega) (fun r m2 q2 => ⟨q2.1, nxt m2 q2.2.1 (fun x => ?_)⟩) (ih (kq - 9) (l + 1) (fr + c) z D m1 (by omega) (by omega) (by omega) hk3 (by omega) c1 (fun x hx => ?_))
            · rw [q2.2.2 x]
              by_cases w : fr + c ≤ x ∧ x < fr + c + z
              · rw [if_pos w, if_pos w]
                unfold wrV
                rw [g6, g7, if_pos ⟨by omega, by omega⟩, if_pos f10]
                have nl : ¬ vT s.1 v < 9 := q
                rw [if_neg nl]
                show _ = ivB s.1 N (s.1.2.2.2.1 (vD s.1 v).2.1 - 9).toNatClampNeg (x - fr - c)
                rw [t10', es, nI_clamp (by omega), show x - (fr + c) = x - fr - c by omega]
              · rw [if_neg w, if_neg w]
            · rw [r1, if_pos ⟨by omega, by omega⟩]
              exact hz v (Nat.le_refl _) vlt _ (by rw [g6]; omega) (by rw [g6, g7]; omega)
    refine w232_0 xs (D + (N + 1) + 1) _ _ _ m _ ⟨fun q => ?_, fun _ => ?_⟩
    · have := (nI_ltI (a := 16) (by omega) (by omega)).mp q
      omega
    rw [nI_clamp (by omega), p26]
    have p26' : (s.1.1.getD b dBK).2.2.2.1 = nI d := hd
    rw [p26']
    refine ⟨x_in_nI (by omega) (by decide), fun q => ?_, fun q => ?_⟩
    · refine y_ci (c119 xs (D + (N + 1)) hc hb) (by omega) ?_
      refine lp (endV s.1 b - (s.1.1.getD b dBK).2.2.2.2) _ (fun _ => 0) m (by omega) (Nat.le_refl _) (fun _ _ _ _ _ _ => rfl) (K53.re m) (fun x => ?_) rfl
      by_cases w : fr ≤ x ∧ x < fr + d
      · rw [if_pos w, ← h0 (x - fr) (by omega), show fr + (x - fr) = x by omega]
      · rw [if_neg w]
    · have d0 : d = 0 := (nI_eq (b := 0) (by omega) (by omega)).mp q
      refine ⟨rfl, K53.re m, fun x => ?_⟩
      rw [if_neg (fun w => by omega)]
