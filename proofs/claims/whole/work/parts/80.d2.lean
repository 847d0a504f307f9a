/-! THE CELLS AT THE BEGIN: the reference -/
def K98 (m m' : yM) : Prop := m'.2 = m.2 ∧ ∀ a i, ¬ a = 98 → m'.1 a i = m.1 a i
theorem K98.re (m : yM) : K98 m m := ⟨rfl, fun _ _ _ => rfl⟩
theorem K98.tr {m m1 m2 : yM} (h : K98 m m1) (h2 : K98 m1 m2) : K98 m m2 := ⟨h2.1.trans h.1, fun a i x => (h2.2 a i x).trans (h.2 a i x)⟩
theorem K98.s (m : yM) (i : Nat) (v : Int32) : K98 m (y_si m 98 i v) := ⟨rfl, fun a j x => by rw [y_si_at, if_neg (fun z => x z.1)]⟩
/-- what the reference holds of variables -/
def RF (s : SU) (m : yM) : Prop := (∀ b, b < s.1.1.length → m.1 73 b = nI (s.1.1.getD b dBK).2.2.2.2 ∧ m.1 73 (b + 1) = nI (endV s.1 b)) ∧ ∀ v, vOk s.1 v → v < 4700 ∧ m.1 83 v = (vD s.1 v).2.2.1 ∧ m.1 80 v = (vD s.1 v).2.2.2 ∧ tyR s.1 m v (vD s.1 v).2.1
theorem RF.g {s : SU} {m m' : yM} (h : RF s m) (g : ∀ a i, 72 < a → a < 84 → ¬ a = 74 → m'.1 a i = m.1 a i) : RF s m' := by
  refine ⟨fun b hb => ?_, fun v hv => ?_⟩
  · rw [g 73 _ (by omega) (by omega) (by omega), g 73 _ (by omega) (by omega) (by omega)]
    exact h.1 b hb
  · obtain ⟨a1, a2, a3, a4⟩ := h.2 v hv
    refine ⟨a1, by rw [g 83 _ (by omega) (by omega) (by omega)]; exact a2, by rw [g 80 _ (by omega) (by omega) (by omega)]; exact a3, ?_⟩
    unfold tyR at a4 ⊢
    rw [g 76 _ (by omega) (by omega) (by omega), g 77 _ (by omega) (by omega) (by omega), g 78 _ (by omega) (by omega) (by omega), g 79 _ (by omega) (by omega) (by omega)]
    exact a4
theorem RF_of {J : JV} {s : SU} {m : yM} (h : RW J s m) (he : m.1 73 s.1.1.length = nI s.1.2.1.length) : RF s m := by
  refine ⟨fun b hb => ⟨(h.b.b hb).2.2.2.2.1, ?_⟩, fun v hv => ?_⟩
  · unfold endV
    by_cases c : b + 1 < s.1.1.length
    · rw [if_pos c]
      exact (h.b.b c).2.2.2.2.1
    · rw [if_neg c, show b + 1 = s.1.1.length by omega]
      exact he
  · obtain ⟨a1, a2, a3, a4, a5, a6, a7⟩ := h.x hv
    exact ⟨a2, a4, a5, a6⟩
theorem c393 (xs : List Int32) {m0 : yM} {T : Nat} {F : List ND} {s : SU} (h : HL m0 T F s) : ∀ (N b fr d D : Nat) (m : yM), b < N → b < s.1.1.length → cB s.1 b = nI d → fr + d ≤ 8192 → RF s m → (∀ x, x < d → m.1 98 (fr + x) = 0) → yC (xg xs) (D + N) 393 [.ref 58, .int (nI b), .int (nI fr)] m (fun r m' => r = none ∧ K98 m m' ∧ ∀ x, m'.1 98 x = if fr ≤ x ∧ x < fr + d then ivB s.1 N b (x - fr) else m.1 98 x) := by
  have h16 : s.1.1.length ≤ 16 := h.2.2.2
  intro N
  induction N with
  | zero => intro b fr d D m hN; exact absurd hN (Nat.not_lt_zero _)
  | succ N ih =>
    intro b fr d D m hN hb hd hfr hc h0
    have fm := h.1.fm b hb
    have v4 := (h.1.2.2.1.1.nb h.1.1 (Nat.le_refl _)).2.1
    have x1 : x_in (nI b + 1) 401 = true := by rw [nI_1]; exact x_in_nI (by omega) (by decide)
    have cb1 : (nI b + 1).toNatClampNeg = b + 1 := by rw [nI_1]; exact nI_clamp (by omega)
    have lp : ∀ (k v : Nat) (M : Nat → Int32) (m1 : yM), v + k = endV s.1 b → (s.1.1.getD b dBK).2.2.2.2 ≤ v → Zr s.1 b v M → K98 m m1 → (∀ x, m1.1 98 x = if fr ≤ x ∧ x < fr + d then M (x - fr) else m.1 98 x) → ivL s.1 (ivB s.1 N) k v M = ivB s.1 (N + 1) b → yP (xg xs) (D + N + 1) 393 7 [(0, .ref 58), (1, .int (nI b)), (2, .int (nI fr)), (3, .int (nI v))] [] m1 (fun r m' => r = none ∧ K98 m m' ∧ ∀ x, m'.1 98 x = if fr ≤ x ∧ x < fr + d then ivB s.1 (N + 1) b (x - fr) else m.1 98 x) := by
      intro k
      induction k with
      | zero =>
        intro v M m1 hv hf hz k1 r1 hiv
        have hv : v = endV s.1 b := hv
        subst hv
        have hiv : M = ivB s.1 (N + 1) b := hiv
        have c1 := hc.g (m' := m1) (fun a i _ _ _ => k1.2 a i (by omega))
        refine w393_7 xs (D + N) _ _ _ m1 _ ⟨x1, ?_⟩
        rw [cb1, (c1.1 b hb).2]
        refine ⟨fun _ => ⟨rfl, k1, fun x => ?_⟩, fun q => absurd (nI_le (Nat.le_refl _) (by omega)) q⟩
        rw [r1 x, hiv]
      | succ k ihk =>
        intro v M m1 hv hf hz k1 r1 hiv
        have vlt : v < endV s.1 b := by omega
        have c1 := hc.g (m' := m1) (fun a i _ _ _ => k1.2 a i (by omega))
        obtain ⟨c, z, d', g1, g2, g3, g4, g5, g6, g7, vl, ok, tl, typ, dj⟩ := h.v hb hf vlt
        have edd : d' = d := (nI_eq (by omega) (by omega)).mp (g3.symm.trans hd)
        subst edd
        obtain ⟨v47, e83, e80, ty⟩ := c1.2 v ok
        rw [g1] at e80
        have cv : (nI v).toNatClampNeg = v := nI_clamp (by omega)
        have xv : x_in (nI v) 4700 = true := x_in_nI (by omega) (by decide)
        have ea : nI fr + nI c = nI (fr + c) := nI_add ..
        have hz' := hz.nx h hb hf vlt (ivB s.1 N)
        have nxt : ∀ (m2 : yM), K98 m1 m2 → (∀ x, m2.1 98 x = if fr + c ≤ x ∧ x < fr + c + z then wrV s.1 (ivB s.1 N) v M (x - fr) else m1.1 98 x) → yP (xg xs) (D + N + 1) 393 115 [(0, .ref 58), (1, .int (nI b)), (2, .int (nI fr)), (3, .int (nI v))] [] m2 (fun r m' => r = none ∧ K98 m m' ∧ ∀ x, m'.1 98 x = if fr ≤ x ∧ x < fr + d' then ivB s.1 (N + 1) b (x - fr) else m.1 98 x) := by
          intro m2 k2 r2
          refine w393_115 xs (D + N) _ _ _ m2 _ ?_
          rw [nI_1]
          refine ihk (v + 1) (wrV s.1 (ivB s.1 N) v M) m2 (by omega) (by omega) hz' (k1.tr k2) (fun x => ?_) hiv
          rw [r2 x]
          by_cases q : fr + c ≤ x ∧ x < fr + c + z
          · rw [if_pos q, if_pos ⟨by omega, by omega⟩]
          · rw [if_neg q, r1 x]
            by_cases q2 : fr ≤ x ∧ x < fr + d'
            · rw [if_pos q2, if_pos q2]
              unfold wrV
              rw [g6, g7, if_neg (fun w => q ⟨by omega, by omega⟩)]
            · rw [if_neg q2, if_neg q2]
        -- its region is empty yet
        have empty : ∀ x, fr + c ≤ x → x < fr + c + z → m1.1 98 x = 0 := fun x a1 a2 => by
          rw [r1 x, if_pos ⟨by omega, by omega⟩]
          exact hz v (Nat.le_refl _) vlt (x - fr) (by rw [g6]; omega) (by rw [g6, g7]; omega)
        refine w393_7 xs (D + N) _ _ _ m1 _ ⟨x1, ?_⟩
        rw [cb1, (c1.1 b hb).2, cv]
        refine ⟨fun q => ?_, fun _ => ⟨xv, ?_⟩⟩
        · have := (nI_leI (by omega) (by omega)).mp q
          omega
        -- a variable of its own
        have plain : ¬ frm s.1 v = 10 → m1.1 79 v = nI z → yP (xg xs) (D + N + 1) 393 67 [(0, .ref 58), (1, .int (nI b)), (2, .int (nI fr)), (3, .int (nI v)), (4, .int (nI 0))] [] m1 (fun r m' => r = none ∧ K98 m m' ∧ ∀ x, m'.1 98 x = if fr ≤ x ∧ x < fr + d' then ivB s.1 (N + 1) b (x - fr) else m.1 98 x) := by
          intro nf e79
          have wr : ∀ x, fr + c ≤ x → x < fr + c + z → wrV s.1 (ivB s.1 N) v M (x - fr) = (vD s.1 v).2.2.1 := fun x a1 a2 => by
            unfold wrV
            rw [g6, g7, if_pos ⟨by omega, by omega⟩, if_neg nf]
          have inl : ∀ (k i : Nat) (m2 : yM), i + k = z → K98 m1 m2 → (∀ x, m2.1 98 x = if fr + c ≤ x ∧ x < fr + c + i then (vD s.1 v).2.2.1 else m1.1 98 x) → yP (xg xs) (D + N + 1) 393 67 [(0, .ref 58), (1, .int (nI b)), (2, .int (nI fr)), (3, .int (nI v)), (4, .int (nI i))] [] m2 (fun r m' => r = none ∧ K98 m m' ∧ ∀ x, m'.1 98 x = if fr ≤ x ∧ x < fr + d' then ivB s.1 (N + 1) b (x - fr) else m.1 98 x) := by
            intro k
            induction k with
            | zero =>
              intro i m2 hi k2 r2
              have hi : i = z := hi
              subst hi
              refine w393_67 xs (D + N) _ _ _ _ m2 _ ⟨xv, ?_⟩
              rw [cv, k2.2 79 _ (by omega), e79]
              refine ⟨fun _ => nxt m2 k2 (fun x => ?_), fun q => absurd (nI_le (Nat.le_refl _) (by omega)) q⟩
              rw [r2 x]
              by_cases w : fr + c ≤ x ∧ x < fr + c + i
              · rw [if_pos w, if_pos w, wr x w.1 w.2]
              · rw [if_neg w, if_neg w]
            | succ k ihi =>
              intro i m2 hi k2 r2
              refine w393_67 xs (D + N) _ _ _ _ m2 _ ⟨xv, ?_⟩
              rw [cv, k2.2 79 _ (by omega), e79, k2.2 83 _ (by omega), e83, k2.2 80 _ (by omega), e80, ea, nI_add, nI_1, nI_clamp (show fr + c + i < 2147483648 by omega)]
              refine ⟨fun q => ?_, fun _ => ⟨xv, fun q => nxt m2 k2 (fun x => ?_), fun q => ⟨xv, xv, x_in_nI (by omega) (by decide), ?_⟩⟩⟩
              · have := (nI_leI (by omega) (by omega)).mp q
                omega
              · rw [r2 x]
                by_cases w : fr + c ≤ x ∧ x < fr + c + z
                · rw [if_pos w, wr x w.1 w.2, q]
                  split
                  · rfl
                  · exact empty x w.1 w.2
                · rw [if_neg w, if_neg (fun y => w ⟨y.1, by omega⟩)]
              · refine ihi (i + 1) _ (by omega) (k2.tr (K98.s _ _ _)) (fun x => ?_)
                by_cases w : x = fr + c + i
                · rw [w, y_si_same, if_pos ⟨by omega, by omega⟩]
                · rw [y_si_at, if_neg (fun y => w y.2), r2 x]
                  by_cases w2 : fr + c ≤ x ∧ x < fr + c + i
                  · rw [if_pos w2, if_pos ⟨w2.1, by omega⟩]
                  · rw [if_neg w2, if_neg (fun y => w2 ⟨y.1, by omega⟩)]
          exact inl z 0 m1 (by omega) (K98.re m1) (fun x => by rw [if_neg (fun y => by omega)])
        have frt : s.1.2.2.1 (vD s.1 v).2.1 = frm s.1 v := rfl
        unfold tyR at ty
        rw [frt] at ty
        rcases typ with ⟨f8, z1⟩ | ⟨f9, t9⟩ | ⟨f10, kq, t10, k1000, hkq⟩
        · rcases ty with ⟨-, u1, u2, u3⟩ | ⟨u0, -⟩ | ⟨u0, -⟩
          · rw [u1]
            exact ⟨fun _ => plain (by rw [f8]; decide) (by rw [u3, z1]; rfl), fun q => absurd q (by decide)⟩
          · rw [f8] at u0; exact absurd u0 (by decide)
          · rw [f8] at u0; exact absurd u0 (by decide)
        · rcases ty with ⟨u0, -⟩ | ⟨-, u1, u2, u3, u4⟩ | ⟨u0, -⟩
          · rw [f9] at u0; exact absurd u0 (by decide)
          · rw [u1]
            exact ⟨fun _ => plain (by rw [f9]; decide) (by rw [u4]; exact t9), fun q => absurd q (by decide)⟩
          · rw [f9] at u0; exact absurd u0 (by decide)
        · rcases ty with ⟨u0, -⟩ | ⟨u0, -⟩ | ⟨-, u1, u2, k', u3, u4, u5⟩
          · rw [f10] at u0; exact absurd u0 (by decide)
          · rw [f10] at u0; exact absurd u0 (by decide)
          · have t10' : s.1.2.2.2.1 (vD s.1 v).2.1 = nI kq := t10
            have ekk : k' = kq := (nI_eq (by omega) (by omega)).mp (u3.symm.trans t10')
            subst ekk
            rw [u1, u5, e80, ea]
            refine ⟨fun q => absurd rfl q, fun _ => ⟨xv, fun q => ?_, fun q => ⟨xv, xv, ?_⟩⟩⟩
            · have k9 : k' < 9 := by
                rcases Nat.lt_or_ge k' 9 with w | w
                · exact w
                · rw [if_neg (by omega)] at q
                  have := (nI_ltI (b := 100) (by omega) (by omega)).mp q
                  omega
              refine nxt m1 (K98.re m1) (fun x => ?_)
              by_cases w : fr + c ≤ x ∧ x < fr + c + z
              · rw [if_pos w, empty x w.1 w.2]
                unfold wrV
                have lt9 : vT s.1 v < 9 := by rw [t10]; exact nI_lt (b := 9) k9 (by omega)
                rw [g6, g7, if_pos ⟨by omega, by omega⟩, if_pos f10, if_pos lt9]
              · rw [if_neg w]
            · have g9 : 9 ≤ k' := by
                rcases Nat.lt_or_ge k' 9 with w | w
                · exfalso
                  apply q
                  rw [if_pos w]
                  exact nI_lt (b := 100) (by omega) (by omega)
                · exact w
              obtain ⟨-, hk2, hk3⟩ := hkq.resolve_left (by omega)
              have es : nI (if k' < 9 then k' else k' + 91) - 100 = nI (k' - 9) := by
                rw [if_neg (by omega), show (100 : Int32) = nI 100 from rfl, nI_sub (by omega)]
                congr 1
              rw [es]
              refine yC.mono (by omega) (fun r m2 q2 => ⟨q2.1, nxt m2 q2.2.1 (fun x => ?_)⟩) (ih (k' - 9) (fr + c) z D m1 (by omega) (by omega) hk3 (by omega) c1 (fun x hx => empty _ (by omega) (by omega)))
              rw [q2.2.2 x]
              by_cases w : fr + c ≤ x ∧ x < fr + c + z
              · rw [if_pos w, if_pos w]
                unfold wrV
                have nl : ¬ vT s.1 v < 9 := by
                  rw [t10]
                  intro y
                  have := (nI_ltI (b := 9) (by omega) (by omega)).mp y
                  omega
                rw [g6, g7, if_pos ⟨by omega, by omega⟩, if_pos f10, if_neg nl]
                show _ = ivB s.1 N (s.1.2.2.2.1 (vD s.1 v).2.1 - 9).toNatClampNeg (x - fr - c)
                rw [t10', show (9 : Int32) = nI 9 from rfl, nI_sub g9, nI_clamp (by omega), show x - (fr + c) = x - fr - c by omega]
              · rw [if_neg w, if_neg w]
    refine w393_0 xs (D + N) _ _ m _ ⟨x_in_nI (by omega) (by decide), ?_⟩
    rw [nI_clamp (by omega), (hc.1 b hb).1]
    refine lp (endV s.1 b - (s.1.1.getD b dBK).2.2.2.2) _ (fun _ => 0) m (by omega) (Nat.le_refl _) (fun _ _ _ _ _ _ => rfl) (K98.re m) (fun x => ?_) rfl
    by_cases w : fr ≤ x ∧ x < fr + d
    · rw [if_pos w, ← h0 (x - fr) (by omega), show fr + (x - fr) = x by omega]
    · rw [if_neg w]
