/-! THE PURE MACHINE IS SAFE: a level's run -/
/-- where jumps lead; a loop: its counter, its end, what its body leaves alone -/
def gdJ (σ : RS) (D : List IT) (j : Nat) : Prop := ((D.getD j dIT).1 = 10 ∨ (D.getD j dIT).1 = 11 → hAt D ((D.getD j dIT).2.1).toNatClampNeg (0, false)) ∧ ((D.getD j dIT).1 = 13 → (D.getD (j - 1) dIT).2.1 = (D.getD j dIT).2.1 ∧ (D.getD (nx D j - 1) dIT).2.1 = nI j ∧ hAt D (nx D j) (0, false) ∧ ∀ k, j < k → k < nx D j → ¬ wrR σ (D.getD k dIT) ((D.getD j dIT).2.1).toNatClampNeg)
/-- a unit's run is through, or tells a fault; its steps, what it leaves alone -/
def UPo (σ : RS) (x q β : Nat) (S : List Int32) (M : Nat → Int32) (n : Nat) (R : XR) : Prop := (∀ r, R = .inl r → r.1 = S ∧ r.2.2 ≤ n + β ∧ ∀ c, ¬ (q ≤ c ∧ c < q + cN σ x) → ¬ FRg σ x c → r.2.1 c = M c) ∧ ∀ r, R = .inr r → r.2.2 ≤ n + β
def CalS (Us : Nat → List IT) (now : Int32) (σ : RS) (B : Nat → Int) (x : Nat) : Prop := ∃ β : Nat, B x = β ∧ ∀ q S M n, FitB σ x q → S.length + 64 * (x + 1) ≤ 1024 → XOk Us (bsF σ) now x q (UPo σ x q β S M n) 0 S M n
def UHy (m0 : yM) (T : Nat) (F : List ND) (s : SU) (Us : Nat → List IT) (now : Int32) (B : Nat → Int) (u b : Nat) (S0 : List Int32) : Prop := HP m0 T F s ∧ u < s.1.1.length ∧ (Us u).length ≤ 3000 ∧ hR (Us u) (0, false) = some (0, false) ∧ (∀ x, x ∈ Us u → itS s.1 u (fun _ => True) x) ∧ (∀ j, j < (Us u).length → gdJ s.1 (Us u) j) ∧ FitB s.1 u b ∧ okS (Us u) ∧ FW (Us u).length (Us u) 0 ∧ mk0 (Us u) ∧ S0.length + 64 * (u + 1) ≤ 1024 ∧ ∀ x, x < u → CalS Us now s.1 B x
/-- what the instructions from a to q may have changed -/
def FrS (σ : RS) (u b : Nat) (D : List IT) (a q : Nat) (M M' : Nat → Int32) : Prop := ∀ c, (∀ j, a ≤ j → j < q → ¬ wrA σ u b (D.getD j dIT) c) → M' c = M c
theorem FrS.re {σ : RS} {u b : Nat} {D : List IT} {a q : Nat} (M : Nat → Int32) : FrS σ u b D a q M M := fun _ _ => rfl
theorem FrS.st {σ : RS} {u b : Nat} {D : List IT} {a q i : Nat} {M M1 M2 : Nat → Int32} (h : FrS σ u b D a q M M1) (ha : a ≤ i) (hq : i < q) (h2 : ∀ c, ¬ wrA σ u b (D.getD i dIT) c → M2 c = M1 c) : FrS σ u b D a q M M2 := fun c hc => by
  rw [h2 c (hc i ha hq), h c hc]
theorem FrS.in {σ : RS} {u b : Nat} {D : List IT} {a q a' q' : Nat} {M M1 M2 : Nat → Int32} (h : FrS σ u b D a q M M1) (ha : a ≤ a') (hq : q' ≤ q) (h2 : FrS σ u b D a' q' M1 M2) : FrS σ u b D a q M M2 := fun c hc => by
  rw [h2 c (fun j j1 j2 => hc j (by omega) (by omega)), h c hc]
theorem tgN_n {t : Nat} (h : t ≤ 3000) : tgN (nI t) = some t := by
  unfold tgN
  rw [nI_clamp (by omega), if_pos ⟨nI_le (a := 0) (Nat.zero_le _) (by omega), h⟩]
theorem goB_t {o : Int32} (h : ¬ o = 10 ∧ ¬ o = 14 ∧ ¬ o = 18) : goB o = true := decide_eq_true h
theorem nil_l {V : List Int32} (h : V.length = 0) : V = [] := List.length_eq_zero_iff.mp h
theorem FRg.mo {σ : RS} {x u c : Nat} (h : FRg σ x c) (hx : x ≤ u) : FRg σ u c := by
  obtain ⟨g, g1, g2⟩ := h
  exact ⟨g, by omega, g2⟩
/-- how many steps the rounds of a loop take -/
def lpx (o : Option Nat) (k : Nat) : Nat := match o with
  | some e => k * (e + 2)
  | none => 0
theorem lp_up1 {r : Option Nat × Option Nat × Option Nat} {n d e : Nat} (hn : 1 ≤ n) (he : r.1 = some e) : ∃ a, lpE r n d = some a ∧ d + n * (e + 2) + 1 ≤ a := by
  unfold lpE
  rw [if_neg (by omega), he]
  exact ole_l (some (d + n * (e + 2) + 1)) (r.2.1.map (fun x => d + (n - 1) * (e + 2) + 1 + x)) _ rfl
theorem lp_up2 {r : Option Nat × Option Nat × Option Nat} {n d v x : Nat} (hv : v ≤ n) (h1 : 1 ≤ v) (hx : r.2.1 = some x) : ∃ a, lpE r n d = some a ∧ d + lpx r.1 (n - v) + 1 + x ≤ a := by
  have le : ∀ e : Nat, (n - v) * (e + 2) ≤ (n - 1) * (e + 2) := fun e => Nat.mul_le_mul_right _ (by omega)
  unfold lpE
  rw [if_neg (by omega), hx]
  cases he : r.1 with
  | none =>
    obtain ⟨a, a1, a2⟩ := ole_r none (some (d + 0 + 1 + x)) _ rfl
    exact ⟨a, a1, a2⟩
  | some e =>
    obtain ⟨a, a1, a2⟩ := ole_r (some (d + n * (e + 2) + 1)) (some (d + (n - 1) * (e + 2) + 1 + x)) _ rfl
    have := le e
    exact ⟨a, a1, by show d + (n - v) * (e + 2) + 1 + x ≤ a; omega⟩
theorem lp_up3 {r : Option Nat × Option Nat × Option Nat} {n d v x : Nat} (hv : v ≤ n) (h1 : 1 ≤ v) (hx : r.2.2 = some x) : ∃ a, lpL r n d = some a ∧ d + lpx r.1 (n - v) + 1 + x ≤ a := by
  have le : ∀ e : Nat, (n - v) * (e + 2) ≤ (n - 1) * (e + 2) := fun e => Nat.mul_le_mul_right _ (by omega)
  unfold lpL
  rw [if_neg (by omega), hx]
  cases he : r.1 with
  | none => exact ⟨_, rfl, Nat.le_refl _⟩
  | some e =>
    have := le e
    exact ⟨_, rfl, by show d + (n - v) * (e + 2) + 1 + x ≤ d + (n - 1) * (e + 2) + 1 + x; omega⟩
/-- a level's run, if what comes behind it runs -/
def LvS (s : SU) (Us : Nat → List IT) (now : Int32) (u b : Nat) (S0 : List Int32) (r : Option Nat × Option Nat × Option Nat) (out : Option Nat) (a q : Nat) : Prop := ∀ (P : XR → Prop) (M : Nat → Int32) (n : Nat), (∀ e, r.1 = some e → ∀ M' n', n' ≤ n + e → FrS s.1 u b (Us u) a q M M' → XOk Us (bsF s.1) now u b P q S0 M' n') → (∀ t x, out = some t → r.2.1 = some x → ∀ M' n', n' ≤ n + x → FrS s.1 u b (Us u) a q M M' → XOk Us (bsF s.1) now u b P t S0 M' n') → (∀ l, r.2.2 = some l → ∀ M' n', n' ≤ n + l → FrS s.1 u b (Us u) a q M M' → P (.inl (S0, M', n'))) → (∀ m, gTm r = some m → ∀ c M' n', n' ≤ n + m → P (.inr (c, M', n'))) → XOk Us (bsF s.1) now u b P a S0 M n
theorem lev_step {m0 : yM} {T : Nat} {F : List ND} {s : SU} {Us : Nat → List IT} {now : Int32} {B : Nat → Int} {u b : Nat} {S0 : List Int32} (H : UHy m0 T F s Us now B u b S0) {N : Nat} (hin : ∀ i bX, RL (Us u) u N (i + 1) bX → i + 2 ≤ bX → bX ≤ (Us u).length → hAt (Us u) (i + 1) (0, false) → hAt (Us u) (bX - 1) (0, false) → rchP (Us u) (Us u).length (i + 1) = true → LvS s Us now u b S0 (gT (Us u) (csF (Us u) B) N (i + 1) (bX - 1)) (some bX) (i + 1) (bX - 1)) {out : Option Nat} {a q : Nat} (hl : LPz (Us u) u N out a q) (hq : q ≤ (Us u).length) (ho : outK (Us u) q out) (ha : hAt (Us u) a (0, false)) (hqz : hAt (Us u) q (0, false)) (hra : rchP (Us u) (Us u).length a = true) : LvS s Us now u b S0 (gT (Us u) (csF (Us u) B) (N + 1) a q) out a q := by
  obtain ⟨hp, hul, hD, hd, hit, hgd, hfit, hok, hfw, h0, hS0, hcal⟩ := H
  intro P M n kE kX kL kF
  have l16 := hp.l.2.1
  have n37 := (hp.c hul).2
  have hfl := fun (j k' : Nat) hu hj => gR_fl (cs := csF (Us u) B) hD N out a q hl hq ho (q - j) j k' (Nat.le_refl _) hu hj
  have flt : ∀ {j k' d : Nat}, upD (Us u) k' a j → j ≤ q → (gRs (Us u) (csF (Us u) B) N a q).1 j = some d → ∀ c M' n', n' ≤ n + d → P (.inr (c, M', n')) := by
    intro j k' d hu hj hd' c M' n' hn
    obtain ⟨m, m1, m2⟩ := hfl j k' hu hj d hd'
    exact kF m m1 c M' n' (by omega)
  have main : ∀ (g i k' : Nat), q - i ≤ g → upD (Us u) k' a i → a ≤ i → i ≤ q → ∀ d, (gRs (Us u) (csF (Us u) B) N a q).1 i = some d → ∀ (st : Nat × Bool) (V : List Int32) (M1 : Nat → Int32) (n1 : Nat), hAt (Us u) i st → V.length = st.1 → rchP (Us u) (Us u).length i = true → n1 ≤ n + d → FrS s.1 u b (Us u) a q M M1 → (st.2 = true → M1 (b + (((Us u).getD (i - 1) dIT).2.1).toNatClampNeg) = ((Us u).getD (i - 1) dIT).2.2.1) → XOk Us (bsF s.1) now u b P i (V ++ S0) M1 n1 := by
    have fin : ∀ d, (gRs (Us u) (csF (Us u) B) N a q).1 q = some d → ∀ (st : Nat × Bool) (V : List Int32) (M1 : Nat → Int32) (n1 : Nat), hAt (Us u) q st → V.length = st.1 → n1 ≤ n + d → FrS s.1 u b (Us u) a q M M1 → XOk Us (bsF s.1) now u b P q (V ++ S0) M1 n1 := by
      intro d hdd st V M1 n1 hst hV hn hF
      rw [← hAt_u hqz hst] at hV
      rw [nil_l hV]
      exact kE d hdd M1 n1 hn hF
    intro g
    induction g with
    | zero =>
      intro i k' hg hu hai hiq d hdd st V M1 n1 hst hV hr hn hF hct
      have ei : i = q := by omega
      subst ei
      exact fin d hdd st V M1 n1 hst hV hn hF
    | succ g ih =>
      intro i k' hg hu hai hiq d hdd st V M1 n1 hst hV hr hn hF hct
      rcases Nat.lt_or_ge i q with c | c
      rotate_left
      · have ei : i = q := by omega
        subst ei
        exact fin d hdd st V M1 n1 hst hV hn hF
      obtain ⟨k, hl'⟩ := hl
      obtain ⟨k2, hk2⟩ := LPk.to k' k a i hl' hu hiq
      cases k2 with
      | zero => have hk2 : i = q := hk2; omega
      | succ k2 =>
      obtain ⟨-, -, a3, a4, a5⟩ := hk2
      have il : i < (Us u).length := by omega
      have hx : (Us u)[i]? = some ((Us u).getD i dIT) := getD_some il
      have xm := List.mem_of_getElem? hx
      have it := hit _ xm
      have gd := hgd i il
      obtain ⟨s', e, q'⟩ := hst.st hd hx
      obtain ⟨v1, v2, v3, v4, v5⟩ := gR_v ⟨k, hl'⟩ hq hD ho hu c hdd
      have h64 : s'.1 ≤ 64 := by
        obtain ⟨y1, y2⟩ := hAt_lay hd (i + 1) s' (by omega) q'
        have := hok i il hr
        rw [y1] at this
        exact (nI_leI (b := 64) (by omega) (by omega)).mp this
      have hu1 := hu.sn a3
      have le := a5.le
      have rg : ∀ {k : Nat}, (goB ((Us u).getD i dIT).1 = true ∧ k = i + 1) ∨ tgI ((Us u).getD i dIT) = some k → rchP (Us u) (Us u).length k = true := fun w => rch_go hfw h0 (by omega) il hr w
      obtain ⟨ok1, ok2, ok3, ok4, ok5⟩ := a4
      obtain ⟨gd1, gd2⟩ := gd
      generalize hX : (Us u).getD i dIT = x at *
      by_cases c13 : x.1 = 13
      · obtain ⟨⟨cnt, cnt1, i1, cnt2⟩, bX, b1, b2, b3, b4, b5⟩ := ok5 c13
        obtain ⟨g1, g2, g3, g4⟩ := gd2 c13
        obtain ⟨cc, cc1, cc2⟩ := it.1 (Or.inr (Or.inr (Or.inr c13)))
        have f8 := hfit.1
        have en : nx (Us u) i = bX := by unfold nx; rw [hX, if_pos c13, b1, nI_clamp (by omega)]
        rw [en] at hu1 g2 g3 g4 v1
        have ecc : x.2.1.toNatClampNeg = cc := by rw [cc1, nI_clamp (by omega)]
        have hcel : celI b x.2.1 = some (b + cc) := by rw [cc1]; exact celI_n (by omega)
        have htg : tgN x.2.2.1 = some bX := by rw [b1]; exact tgN_n (by omega)
        have st0 : st = (0, true) ∧ s' = (0, false) := by
          rw [c13] at e
          rcases hS_i e with ⟨-, w⟩ | ⟨-, w⟩
          · exact w
          · rcases w with ⟨w, -⟩ | ⟨w, -⟩ | ⟨w, -⟩ | ⟨w, -⟩ | ⟨w, -⟩ | ⟨w, -⟩ | ⟨w, -⟩ | ⟨w, -⟩ | ⟨w, -⟩ | ⟨w, -⟩
            · exact absurd w (by decide)
            · exact absurd w (by decide)
            · exact absurd w (by decide)
            · exact absurd w (by decide)
            · exact absurd w (by decide)
            · exact absurd w (by decide)
            · exact absurd w (by decide)
            · exact absurd w (by decide)
            · exact absurd w (by decide)
            · exact absurd w (by decide)
        rw [st0.1] at hV
        rw [st0.2] at q'
        have hM1 : M1 (b + cc) = nI cnt := by
          have := hct (by rw [st0.1])
          rw [g1, ecc, cnt2] at this
          exact this
        rw [nil_l hV]
        have rX : rchP (Us u) (Us u).length bX = true := rg (Or.inr (by unfold tgI; rw [if_neg (by rw [c13]; decide), if_pos c13, b1, nI_clamp (by omega)]))
        have r1 : rchP (Us u) (Us u).length (i + 1) = true := rg (Or.inl ⟨goB_t (by rw [c13]; decide), rfl⟩)
        have hxb : (Us u)[bX - 1]? = some ((Us u).getD (bX - 1) dIT) := getD_some (by omega)
        have hb0 : hAt (Us u) (bX - 1) (0, false) := by
          obtain ⟨s2, q2⟩ := hAt_x hd (bX - 1)
          obtain ⟨s3, e3, -⟩ := q2.st hd hxb
          rw [b4] at e3
          rcases hS_i e3 with ⟨w, -⟩ | ⟨f, w⟩
          · exact absurd w (by decide)
          · rcases w with ⟨w, -⟩ | ⟨w, -⟩ | ⟨w, -⟩ | ⟨w, -⟩ | ⟨w, -⟩ | ⟨w, -⟩ | ⟨w, -⟩ | ⟨w, -⟩ | ⟨w, -⟩ | ⟨-, w, -⟩
            · exact absurd w (by decide)
            · exact absurd w (by decide)
            · exact absurd w (by decide)
            · exact absurd w (by decide)
            · exact absurd w (by decide)
            · exact absurd w (by decide)
            · exact absurd w (by decide)
            · exact absurd w (by decide)
            · exact absurd w (by decide)
            · rw [← show s2 = (0, false) from Prod.ext w f]; exact q2
        have inn := hin i bX b5 b2 (by omega) q' hb0 r1
        obtain ⟨w1, w2⟩ := v1 c13
        rw [cnt2, nI_clamp (by omega)] at w1 w2
        have toX : ∀ (M' : Nat → Int32) (n' a' : Nat), lpE (gT (Us u) (csF (Us u) B) N (i + 1) (bX - 1)) cnt d = some a' → n' ≤ n + a' → FrS s.1 u b (Us u) a q M M' → XOk Us (bsF s.1) now u b P bX S0 M' n' := by
          intro M' n' a' ea hn' hF'
          obtain ⟨d', d1, d2⟩ := w1 a' ea
          exact ih bX _ (by omega) hu1 (by omega) b3 d' d1 (0, false) [] M' n' g3 rfl rX (by omega) hF' (fun w => by cases w)
        have loop : ∀ (v : Nat) (M2 : Nat → Int32) (n2 : Nat), v ≤ cnt → M2 (b + cc) = nI v → FrS s.1 u b (Us u) a q M M2 → n2 ≤ n + d + lpx (gT (Us u) (csF (Us u) B) N (i + 1) (bX - 1)).1 (cnt - v) → ((gT (Us u) (csF (Us u) B) N (i + 1) (bX - 1)).1 = none → v = cnt) → XOk Us (bsF s.1) now u b P i S0 M2 n2 := by
          generalize gT (Us u) (csF (Us u) B) N (i + 1) (bX - 1) = r' at inn w1 w2 toX ⊢
          intro v
          induction v with
          | zero =>
            intro M2 n2 hv hm hF2 hn2 hz
            refine XOk.nx hx c13 hcel htg (fun _ => ?_) (fun z => absurd hm z)
            by_cases c0 : cnt = 0
            · refine toX M2 (n2 + 1) (d + 1) (by unfold lpE; rw [if_pos c0]) ?_ hF2
              have : lpx r'.1 (cnt - 0) = 0 := by
                rw [c0]
                unfold lpx
                cases r'.1 with
                | none => rfl
                | some e0 => exact Nat.zero_mul _
              omega
            · cases er : r'.1 with
              | none => exact absurd (hz er).symm c0
              | some e0 =>
                obtain ⟨a', a1, a2⟩ := lp_up1 (d := d) (show 1 ≤ cnt by omega) er
                refine toX M2 (n2 + 1) a' a1 ?_ hF2
                rw [er] at hn2
                have hn2 : n2 ≤ n + d + (cnt - 0) * (e0 + 2) := hn2
                rw [Nat.sub_zero] at hn2
                omega
          | succ v ihv =>
            intro M2 n2 hv hm hF2 hn2 hz
            have nz : ¬ M2 (b + cc) = 0 := by
              rw [hm]
              intro z
              have := (nI_eq (a := v + 1) (b := 0) (by omega) (by omega)).mp z
              omega
            have hm' : M2 (b + cc) - 1 = nI v := by
              rw [hm]
              exact nI_m (k := v + 1) (by omega)
            refine XOk.nx hx c13 hcel htg (fun z => absurd z nz) (fun _ => ?_)
            have hFi : FrS s.1 u b (Us u) a q M (upd M2 (b + cc) (M2 (b + cc) - 1)) := hF2.st hai c (fun y hy => by
              rw [upd_at, if_neg (fun z => hy (by rw [hX]; exact Or.inl ⟨cc, z, Or.inl ⟨Or.inr (Or.inr c13), ecc.symm⟩⟩))])
            have fr : ∀ M', FrS s.1 u b (Us u) (i + 1) (bX - 1) (upd M2 (b + cc) (M2 (b + cc) - 1)) M' → FrS s.1 u b (Us u) a q M M' := fun M' h => hFi.in (by omega) (by omega) h
            refine inn P _ (n2 + 1) (fun e0 he0 M' n' hn' hF' => ?_) (fun t y ht hy M' n' hn' hF' => ?_) (fun l hl0 M' n' hn' hF' => ?_) (fun m hm0 cF M' n' hn' => ?_)
            · refine XOk.jp hxb (Or.inr b4) (by rw [g2]; exact tgN_n (by omega)) (ihv M' (n' + 1) (by omega) ?_ (fr M' hF') ?_ (fun w => by rw [w] at he0; cases he0))
              · rw [hF' (b + cc) (fun j j1 j2 w => ?_), upd_at, if_pos rfl, hm']
                rcases w with ⟨r, r1, r2⟩ | ⟨-, w⟩
                · have : r = cc := by omega
                  rw [this, ← ecc] at r2
                  exact g4 j (by omega) (by omega) r2
                · exact hfit.2 (b + cc) (by omega) (by omega) w
              · rw [he0] at hn2 ⊢
                have hn2 : n2 ≤ n + d + (cnt - (v + 1)) * (e0 + 2) := hn2
                show n' + 1 ≤ n + d + (cnt - v) * (e0 + 2)
                have : (cnt - v) * (e0 + 2) = (cnt - (v + 1)) * (e0 + 2) + (e0 + 2) := by
                  rw [show cnt - v = cnt - (v + 1) + 1 by omega, Nat.succ_mul]
                omega
            · obtain ⟨a', a1, a2⟩ := lp_up2 (d := d) hv (by omega) hy
              rw [← Option.some.inj ht]
              exact toX M' n' a' a1 (by omega) (fr M' hF')
            · obtain ⟨a', a1, a2⟩ := lp_up3 (d := d) hv (by omega) hl0
              obtain ⟨l', l1, l2⟩ := w2 a' a1
              exact kL l' l1 M' n' (by omega) (fr M' hF')
            · rcases gTm_e hm0 with y | y | y
              · obtain ⟨a', a1, a2⟩ := lp_up1 (d := d) (show 1 ≤ cnt by omega) y
                obtain ⟨d', d1, d2⟩ := w1 a' a1
                rw [y] at hn2
                have hn2 : n2 ≤ n + d + (cnt - (v + 1)) * (m + 2) := hn2
                have : (cnt - (v + 1)) * (m + 2) + (m + 2) ≤ cnt * (m + 2) := by
                  rw [← Nat.succ_mul]
                  exact Nat.mul_le_mul_right _ (by omega)
                exact flt hu1 b3 d1 cF M' n' (by omega)
              · obtain ⟨a', a1, a2⟩ := lp_up2 (d := d) hv (by omega) y
                obtain ⟨d', d1, d2⟩ := w1 a' a1
                exact flt hu1 b3 d1 cF M' n' (by omega)
              · obtain ⟨a', a1, a2⟩ := lp_up3 (d := d) hv (by omega) y
                obtain ⟨l', l1, l2⟩ := w2 a' a1
                obtain ⟨m', m1, m2⟩ := gTm_3 (gT (Us u) (csF (Us u) B) (N + 1) a q) l' l1
                exact kF m' m1 cF M' n' (by omega)
        exact loop cnt M1 n1 (Nat.le_refl _) hM1 hF (by omega) (fun _ => rfl)
      have en : nx (Us u) i = i + 1 := by unfold nx; rw [hX, if_neg c13]
      rw [en] at hu1 le
      have go : ∀ (V' : List Int32) (M' : Nat → Int32) (n' : Nat), ole (some (d + csF (Us u) B i)) ((gRs (Us u) (csF (Us u) B) N a q).1 (i + 1)) → V'.length = s'.1 → goB x.1 = true → n' ≤ n + (d + csF (Us u) B i) → FrS s.1 u b (Us u) a q M M' → (s'.2 = true → M' (b + x.2.1.toNatClampNeg) = x.2.2.1) → XOk Us (bsF s.1) now u b P (i + 1) (V' ++ S0) M' n' := by
        intro V' M' n' z hV' hg' hn' hF' hc'
        obtain ⟨d', d1, d2⟩ := z _ rfl
        refine ih (i + 1) _ (by omega) hu1 (by omega) le d' d1 s' V' M' n' q' hV' (rg (Or.inl ⟨hg', rfl⟩)) (by omega) hF' ?_
        rw [Nat.add_sub_cancel, hX]
        exact hc'
      have flt1 : ole (some (d + csF (Us u) B i)) ((gRs (Us u) (csF (Us u) B) N a q).1 (i + 1)) → ∀ c M' n', n' ≤ n + (d + csF (Us u) B i) → P (.inr (c, M', n')) := by
        intro z c M' n' hn'
        obtain ⟨d', d1, d2⟩ := z _ rfl
        exact flt hu1 le d1 c M' n' (by omega)
      have jmp : ∀ t, TQ (Us u) (i + 1) t q → x.2.1 = nI t → (x.1 = 10 ∨ x.1 = 11) → ole (some (d + csF (Us u) B i)) ((gRs (Us u) (csF (Us u) B) N a q).1 t) → n1 + 1 ≤ n + (d + csF (Us u) B i) → XOk Us (bsF s.1) now u b P t S0 M1 (n1 + 1) := by
        intro t ht et ho' z hn'
        obtain ⟨t1, t2, k3, t3⟩ := ht
        obtain ⟨d', d1, d2⟩ := z _ rfl
        have ec : x.2.1.toNatClampNeg = t := by rw [et, nI_clamp (by omega)]
        have hz := gd1 ho'
        rw [ec] at hz
        refine ih t _ (by omega) (t3.tr hu1) (by omega) t2 d' d1 (0, false) [] M1 (n1 + 1) hz rfl (rg (Or.inr ?_)) (by omega) hF (fun w => by cases w)
        unfold tgI
        rw [if_pos ho', ec]
      have ne14 := ok1
      have cs1 : ¬ (x.1 = 15 ∨ x.1 = 16) → csF (Us u) B i = 1 := fun w => by unfold csF; rw [hX, if_neg w]
      by_cases c18 : x.1 = 18
      · have cs := cs1 (by rw [c18]; decide)
        obtain ⟨l, l1, l2⟩ := v2 c18 _ rfl
        have hV0 : V = [] := by
          rw [c18] at e
          rcases hS_i e with ⟨w, -⟩ | ⟨-, w⟩
          · exact absurd w (by decide)
          · rcases w with ⟨w, -⟩ | ⟨w, -⟩ | ⟨w, -⟩ | ⟨w, -⟩ | ⟨w, -⟩ | ⟨w, -⟩ | ⟨w, -⟩ | ⟨w, -⟩ | ⟨w, -⟩ | ⟨-, w, -⟩
            · exact absurd w (by decide)
            · exact absurd w (by decide)
            · exact absurd w (by decide)
            · exact absurd w (by decide)
            · exact absurd w (by decide)
            · exact absurd w (by decide)
            · exact absurd w (by decide)
            · exact absurd w (by decide)
            · exact absurd w (by decide)
            · exact nil_l (hV.trans w)
        rw [hV0]
        exact XOk.lv hx c18 (kL l l1 M1 (n1 + 1) (by omega) hF)
      by_cases c10 : x.1 = 10
      · have cs := cs1 (by rw [c10]; decide)
        obtain ⟨t, t1, t2⟩ := ok3 c10
        have hV0 : V = [] := by
          rw [c10] at e
          rcases hS_i e with ⟨w, -⟩ | ⟨-, w⟩
          · exact absurd w (by decide)
          · rcases w with ⟨w, -⟩ | ⟨w, -⟩ | ⟨w, -⟩ | ⟨w, -⟩ | ⟨w, -⟩ | ⟨w, -⟩ | ⟨w, -⟩ | ⟨w, -⟩ | ⟨w, -⟩ | ⟨-, w, -⟩
            · exact absurd w (by decide)
            · exact absurd w (by decide)
            · exact absurd w (by decide)
            · exact absurd w (by decide)
            · exact absurd w (by decide)
            · exact absurd w (by decide)
            · exact absurd w (by decide)
            · exact absurd w (by decide)
            · exact absurd w (by decide)
            · exact nil_l (hV.trans w)
        rw [hV0]
        rcases t2 with w | w
        · obtain ⟨o1, o2⟩ := ho t w
          have z := (v3 c10).1
          rw [t1, nI_clamp (by omega)] at z
          obtain ⟨y, y1, y2⟩ := z o1 _ rfl
          exact XOk.jp hx (Or.inl c10) (by rw [t1]; exact tgN_n (by omega)) (kX t y w y1 M1 (n1 + 1) (by omega) hF)
        · have w2 := w.2.1
          have z := (v3 c10).2
          rw [t1, nI_clamp (by omega)] at z
          exact XOk.jp hx (Or.inl c10) (by rw [t1]; exact tgN_n (by omega)) (jmp t w t1 (Or.inl c10) (z (by omega)) (by omega))
      by_cases c11 : x.1 = 11
      · have cs := cs1 (by rw [c11]; decide)
        obtain ⟨t, t1, t2⟩ := ok4 c11
        have w2 := t2.2.1
        have hV1 : st.1 = 1 ∧ s' = (0, false) := by
          rw [c11] at e
          rcases hS_i e with ⟨w, -⟩ | ⟨-, w⟩
          · exact absurd w (by decide)
          · rcases w with ⟨w, -⟩ | ⟨w, -⟩ | ⟨w, -⟩ | ⟨w, -⟩ | ⟨w, -⟩ | ⟨w, -⟩ | ⟨-, w⟩ | ⟨w, -⟩ | ⟨w, -⟩ | ⟨w, -⟩
            · exact absurd w (by decide)
            · exact absurd w (by decide)
            · exact absurd w (by decide)
            · exact absurd w (by decide)
            · exact absurd w (by decide)
            · exact absurd w (by decide)
            · exact w
            · exact absurd w (by decide)
            · exact absurd w (by decide)
            · exact absurd w (by decide)
        obtain ⟨v, V', rfl, hV'⟩ := one_l hV (by omega)
        have hV0 : V' = [] := nil_l (by omega)
        subst hV0
        obtain ⟨z1, z2⟩ := v4 c11
        rw [t1, nI_clamp (by omega)] at z2
        refine XOk.br hx c11 (by rw [t1]; exact tgN_n (by omega)) ?_
        by_cases vz : v = 0
        · rw [if_pos vz]
          exact jmp t t2 t1 (Or.inr c11) z2 (by omega)
        · rw [if_neg vz]
          exact go [] M1 (n1 + 1) z1 (by rw [hV1.2]; rfl) (goB_t (by rw [c11]; decide)) (by omega) hF (fun w => by rw [hV1.2] at w; cases w)
      have z5 := v5 c13 c18 c10 c11
      have hgo : goB x.1 = true := goB_t ⟨c10, ne14, c18⟩
      by_cases cc : x.1 = 15 ∨ x.1 = 16
      · have cal : ∃ kk qq, x.2.1 = nI kk ∧ kk < u ∧ (if x.1 = 15 then (if 0 ≤ x.2.2.1 then some (b + x.2.2.1.toNatClampNeg) else none) else bsF s.1 x.2.1.toNatClampNeg) = some qq ∧ qq ≤ 8192 ∧ FitB s.1 kk qq ∧ (∀ c, (qq ≤ c ∧ c < qq + cN s.1 kk) ∨ FRg s.1 kk c → wrA s.1 u b x c) ∧ s' = (st.1, false) := by
          have f8 := hfit.1
          by_cases c15 : x.1 = 15
          · obtain ⟨kk, c0, e1, e2, e3, e4⟩ := it.2.2.2.2.1 c15
            refine ⟨kk, b + c0, e1, e2, ?_, by omega, ⟨by omega, fun c h1 h2 h3 => hfit.2 c (by omega) (by omega) (h3.mo (by omega))⟩, fun c hc => ?_, ?_⟩
            · rw [if_pos c15, e3, nI_clamp (by omega), if_pos (show (0 : Int32) ≤ nI _ from nI_le (a := 0) (Nat.zero_le _) (by omega))]
            · rcases hc with w | w
              · exact Or.inl ⟨c - b, by omega, Or.inr (Or.inr (Or.inl ⟨c15, by rw [e3, nI_clamp (by omega)]; omega, by rw [e1, e3, nI_clamp (by omega), nI_clamp (by omega)]; omega⟩))⟩
              · exact Or.inr ⟨Or.inr (Or.inl c15), w.mo (by omega)⟩
            · rw [c15] at e
              rcases hS_i e with ⟨w, -⟩ | ⟨-, w⟩
              · exact absurd w (by decide)
              · rcases w with ⟨w, -⟩ | ⟨w, -⟩ | ⟨w, -⟩ | ⟨w, -⟩ | ⟨w, -⟩ | ⟨w, -⟩ | ⟨w, -⟩ | ⟨w, -⟩ | ⟨w, -⟩ | ⟨-, w, w2⟩
                · exact absurd w (by decide)
                · exact absurd w (by decide)
                · exact absurd w (by decide)
                · exact absurd w (by decide)
                · exact absurd w (by decide)
                · exact absurd w (by decide)
                · exact absurd w (by decide)
                · exact absurd w (by decide)
                · exact absurd w (by decide)
                · rw [w2, w]
          · have c16 : x.1 = 16 := cc.elim (fun w => absurd w c15) id
            obtain ⟨kk, e1, e2, e3⟩ := it.2.2.2.2.2.1 c16
            have fn := hp.fn (b := kk) (by omega) e3
            refine ⟨kk, bsN s.1 kk, e1, e2, ?_, hp.le (by omega), ⟨fn.1, fun c h1 h2 h3 => ?_⟩, fun c hc => Or.inr ⟨Or.inr (Or.inr c16), ?_⟩, ?_⟩
            · rw [if_neg c15, e1, nI_clamp (by omega)]
              unfold bsF
              rw [if_pos ⟨by omega, e3⟩]
            · obtain ⟨g, g1, g2, g3, g4⟩ := h3
              have f2 := (hp.fn (b := g) (by omega) g2).2
              have f3 := bsN_le s.1 (kk - (g + 1)) (g + 1)
              rw [show g + 1 + (kk - (g + 1)) = kk by omega] at f3
              omega
            · rcases hc with w | w
              · exact ⟨kk, e2, e3, w.1, w.2⟩
              · exact w.mo (by omega)
            · rw [c16] at e
              rcases hS_i e with ⟨w, -⟩ | ⟨-, w⟩
              · exact absurd w (by decide)
              · rcases w with ⟨w, -⟩ | ⟨w, -⟩ | ⟨w, -⟩ | ⟨w, -⟩ | ⟨w, -⟩ | ⟨w, -⟩ | ⟨w, -⟩ | ⟨w, -⟩ | ⟨-, w⟩ | ⟨w, -⟩
                · exact absurd w (by decide)
                · exact absurd w (by decide)
                · exact absurd w (by decide)
                · exact absurd w (by decide)
                · exact absurd w (by decide)
                · exact absurd w (by decide)
                · exact absurd w (by decide)
                · exact absurd w (by decide)
                · exact w
                · exact absurd w (by decide)
        obtain ⟨kk, qq, e1, e2, e3, e4, e5, e6, e7⟩ := cal
        obtain ⟨β, bb, sp⟩ := hcal kk e2
        have ec : x.2.1.toNatClampNeg = kk := by rw [e1, nI_clamp (by omega)]
        have cs : csF (Us u) B i = β + 1 := by
          unfold csF
          rw [hX, if_pos cc, ec, bb]
          omega
        have hst64 : st.1 ≤ 64 := by rw [e7] at h64; exact h64
        obtain ⟨f1, R1, h1, hR1⟩ := sp qq (V ++ S0) M1 (n1 + 1) e5 (by rw [List.length_append]; omega)
        refine XOk.ca hx cc e3 ⟨by rw [e1]; exact nI_le (a := 0) (Nat.zero_le _) (by omega), by rw [ec]; exact e2, e4⟩ (by rw [ec]; exact h1) (fun r er => ?_) (fun r er => ?_)
        · obtain ⟨r1, r2, r3⟩ := hR1.1 r er
          rw [r1]
          refine go V r.2.1 r.2.2 z5 (by rw [hV, e7]) hgo (by omega) (hF.st hai c (fun y hy => ?_)) (fun w => by rw [e7] at w; cases w)
          rw [hX] at hy
          exact r3 y (fun w => hy (e6 y (Or.inl w))) (fun w => hy (e6 y (Or.inr w)))
        · have r1 := hR1.2 r er
          exact flt1 z5 r.1 r.2.1 r.2.2 (by omega)
      have cs := cs1 cc
      have ho' : ¬ (x.1 = 10 ∨ x.1 = 14) ∧ ¬ x.1 = 11 ∧ ¬ x.1 = 13 ∧ ¬ (x.1 = 15 ∨ x.1 = 16) ∧ ¬ x.1 = 18 := ⟨fun w => w.elim c10 ne14, c11, c13, cc, c18⟩
      rcases ox_s hp hul it hfit (h := st.1) (f := st.2) e ho' hV (S0 := S0) (by omega) now M1 with ⟨V', M', e1, e2, e3, e4⟩ | ⟨cF, e1⟩
      · refine XOk.go hx ho' e1 (go V' M' (n1 + 1) z5 e2 hgo (by omega) (hF.st hai c (fun y hy => e3 y (by rw [hX] at hy; exact hy))) (fun w => e4 ?_))
        rcases hS_i e with ⟨y, -⟩ | ⟨-, y⟩
        · exact absurd y c13
        · rcases y with ⟨-, y⟩ | ⟨-, -, y⟩ | ⟨-, -, y⟩ | ⟨-, -, y⟩ | ⟨-, -, y⟩ | ⟨-, -, y⟩ | ⟨-, -, y⟩ | ⟨y, -⟩ | ⟨-, y⟩ | ⟨-, -, y⟩
          · rw [y] at w; cases w
          · rw [y] at w; cases w
          · rw [y] at w; cases w
          · rw [y] at w; cases w
          · rw [y] at w; cases w
          · rw [y] at w; cases w
          · rw [y] at w; cases w
          · exact y
          · rw [y] at w; cases w
          · rw [y] at w; cases w
      · exact XOk.ft hx ho' e1 (flt1 z5 cF M1 (n1 + 1) (by omega))
  have := main (q - a) a 0 (Nat.le_refl _) rfl (Nat.le_refl _) hl.le 0 (gR_a0 hl hq hD ho) (0, false) [] M n ha rfl hra (by omega) (FrS.re M) (fun w => by cases w)
  exact this
theorem lev {m0 : yM} {T : Nat} {F : List ND} {s : SU} {Us : Nat → List IT} {now : Int32} {B : Nat → Int} {u b : Nat} {S0 : List Int32} (H : UHy m0 T F s Us now B u b S0) : ∀ (N : Nat) (out : Option Nat) (a q : Nat), LPz (Us u) u N out a q → q ≤ (Us u).length → outK (Us u) q out → hAt (Us u) a (0, false) → hAt (Us u) q (0, false) → rchP (Us u) (Us u).length a = true → LvS s Us now u b S0 (gT (Us u) (csF (Us u) B) (N + 1) a q) out a q := by
  intro N
  induction N with
  | zero => exact fun out a q hl hq ho ha hqz hra => lev_step H (N := 0) (fun i bX h => absurd h (fun z => z)) hl hq ho ha hqz hra
  | succ N ih => exact fun out a q hl hq ho ha hqz hra => lev_step H (fun i bX h h2 h3 h4 h5 h6 => ih (some bX) (i + 1) (bX - 1) h (by omega) (fun t ht => by rw [← Option.some.inj ht]; omega) h4 h5 h6) hl hq ho ha hqz hra
theorem wrR_lt {σ : RS} {u : Nat} {W : Nat → Prop} {x : IT} (h37 : cN σ u ≤ 37052) (hu : u ≤ 16) (hi : itS σ u W x) {r : Nat} (h : wrR σ x r) : r < cN σ u := by
  obtain ⟨i1, i2, -, -, i5, -, i7, -⟩ := hi
  rcases h with ⟨o, e⟩ | ⟨o, e1, e2⟩ | ⟨o, e1, e2⟩ | ⟨o, e1, e2⟩
  · obtain ⟨c, c1, c2⟩ := i1 (o.elim (fun o => Or.inr (Or.inl o)) (fun o => o.elim (fun o => Or.inr (Or.inr (Or.inl o))) (fun o => Or.inr (Or.inr (Or.inr o)))))
    rw [e, c1, nI_clamp (by omega)]
    exact c2
  · obtain ⟨c, z, c1, c2, c3, c4⟩ := i2 (Or.inr o)
    rw [c1, c2, nI_clamp (by omega), nI_clamp (by omega)] at e2
    omega
  · obtain ⟨k, c, c1, c2, c3, c4⟩ := i5 o
    rw [c1, c3, nI_clamp (by omega), nI_clamp (by omega)] at e2
    omega
  · obtain ⟨k, c, c1, c2, c3, c4⟩ := i7 o
    rw [c1, c3, nI_clamp (by omega), nI_clamp (by omega)] at e2
    omega
/-- a unit's run -/
theorem unit_run {m0 : yM} {T : Nat} {F : List ND} {s : SU} {Us : Nat → List IT} {now : Int32} {B : Nat → Int} {u : Nat} (hl : LPz (Us u) u 60 none 0 (Us u).length) (hB : B u = bdV (bdO (Us u) B)) (hS : ∀ b S0, FitB s.1 u b → S0.length + 64 * (u + 1) ≤ 1024 → UHy m0 T F s Us now B u b S0) (hD : (Us u).length ≤ 3000) : CalS Us now s.1 B u := by
  have hX : (gT (Us u) (csF (Us u) B) 61 0 (Us u).length).2.1 = none := by
    obtain ⟨k, h⟩ := hl
    exact gI_x (Nat.le_refl _) hD _ k 0 _ h
  have ok : outK (Us u) (Us u).length none := fun t ht => by cases ht
  have hm : gTm (gT (Us u) (csF (Us u) B) 61 0 (Us u).length) = bdO (Us u) B := by
    unfold gTm bdO
    rw [hX]
    rfl
  obtain ⟨β, hβ, -⟩ := gR_fl (cs := csF (Us u) B) hD 60 none 0 (Us u).length hl (Nat.le_refl _) ok (Us u).length 0 0 (by omega) rfl (Nat.zero_le _) 0 (gR_a0 hl (Nat.le_refl _) hD ok)
  have hβ : gTm (gT (Us u) (csF (Us u) B) 61 0 (Us u).length) = some β := hβ
  refine ⟨β, by rw [hB, ← hm, hβ]; rfl, fun b S0 M n hf hs => ?_⟩
  have H := hS b S0 hf hs
  have lv := lev H 60 none 0 (Us u).length hl (Nat.le_refl _) ok (hAt_0 _) (by unfold hAt; rw [List.take_length]; exact H.2.2.2.1) (rch_0 _)
  have up : ∀ {o : Option Nat} {e : Nat}, ole o (gTm (gT (Us u) (csF (Us u) B) 61 0 (Us u).length)) → o = some e → e ≤ β := fun h e => by
    obtain ⟨y, y1, y2⟩ := h _ e
    rw [hβ] at y1
    rw [Option.some.inj y1]
    exact y2
  have fr : ∀ M' : Nat → Int32, FrS s.1 u b (Us u) 0 (Us u).length M M' → ∀ c, ¬ (b ≤ c ∧ c < b + cN s.1 u) → ¬ FRg s.1 u c → M' c = M c := by
    intro M' h c h1 h2
    refine h c (fun j _ j2 w => ?_)
    rcases w with ⟨r, r1, r2⟩ | ⟨-, w⟩
    · have := wrR_lt (H.1.c H.2.1).2 (by have := H.1.l.2.1; have := H.2.1; omega) (H.2.2.2.2.1 _ (List.mem_of_getElem? (getD_some j2))) r2
      omega
    · exact h2 w
  refine lv _ M n (fun e he M' n' hn' hF => ?_) (fun t x ht => by cases ht) (fun l hl0 M' n' hn' hF => ?_) (fun m hm0 c M' n' hn' => ?_)
  · have := up (gTm_1 _) he
    exact XOk.en (List.getElem?_eq_none (Nat.le_refl _)) ⟨(fun r er => by rw [← Sum.inl.inj er]; exact ⟨rfl, by show n' ≤ _; omega, fr M' hF⟩), (fun r er => by cases er)⟩
  · have := up (gTm_3 _) hl0
    exact ⟨(fun r er => by rw [← Sum.inl.inj er]; exact ⟨rfl, by show n' ≤ _; omega, fr M' hF⟩), (fun r er => by cases er)⟩
  · have := up (ole.re _) hm0
    exact ⟨(fun r er => by cases er), (fun r er => by rw [← Sum.inr.inj er]; show n' ≤ _; omega)⟩
