/-! THE PURE MACHINE IS SAFE: what the pass over a level says -/
/-- no more than -/
def ole (o o' : Option Nat) : Prop := ∀ a, o = some a → ∃ b, o' = some b ∧ a ≤ b
theorem ole.re (o : Option Nat) : ole o o := fun a h => ⟨a, h, Nat.le_refl _⟩
theorem ole.tr {o1 o2 o3 : Option Nat} (h : ole o1 o2) (h2 : ole o2 o3) : ole o1 o3 := fun a e => by
  obtain ⟨b, b1, b2⟩ := h a e
  obtain ⟨c, c1, c2⟩ := h2 b b1
  exact ⟨c, c1, by omega⟩
theorem ole_n (o : Option Nat) : ole none o := fun a e => by cases e
theorem ole_l (o o' : Option Nat) : ole o (omx o o') := fun a e => by
  rw [e]
  cases o' with
  | none => exact ⟨a, rfl, Nat.le_refl _⟩
  | some b => exact ⟨max a b, rfl, by omega⟩
theorem ole_r (o o' : Option Nat) : ole o' (omx o o') := fun a e => by
  rw [e]
  cases o with
  | none => exact ⟨a, rfl, Nat.le_refl _⟩
  | some b => exact ⟨max b a, rfl, by omega⟩
theorem ole_s {a b : Nat} {o : Option Nat} (h : ole (some b) o) (hb : a ≤ b) : ole (some a) o := fun c e => by
  obtain ⟨d, d1, d2⟩ := h b rfl
  exact ⟨d, d1, by rw [← Option.some.inj e]; omega⟩
theorem upM_m (w : Nat → Option Nat) (k : Nat) (o : Option Nat) (j : Nat) : ole (w j) (upM w k o j) := by
  unfold upM
  split
  · exact ole_l _ _
  · exact ole.re _
theorem upM_k (w : Nat → Option Nat) (k : Nat) (o : Option Nat) : ole o (upM w k o k) := by
  unfold upM
  rw [if_pos rfl]
  exact ole_r _ _
theorem upM_o (w : Nat → Option Nat) {k j : Nat} (o : Option Nat) (h : ¬ j = k) : upM w k o j = w j := by
  unfold upM
  rw [if_neg h]
abbrev gIn : Type := Nat → Nat → Option Nat × Option Nat × Option Nat
/-- the pass only adds -/
def gle (s s' : gW) : Prop := (∀ j, ole (s.1 j) (s'.1 j)) ∧ ole s.2.1 s'.2.1 ∧ ole s.2.2 s'.2.2
theorem gle.re (s : gW) : gle s s := ⟨fun _ => ole.re _, ole.re _, ole.re _⟩
theorem gle.tr {s1 s2 s3 : gW} (h : gle s1 s2) (h2 : gle s2 s3) : gle s1 s3 := ⟨fun j => (h.1 j).tr (h2.1 j), h.2.1.tr h2.2.1, h.2.2.tr h2.2.2⟩
theorem gSt_m (D : List IT) (cs : Nat → Nat) (inn : gIn) (q i : Nat) (st : gW) : gle st (gSt D cs inn q i st) := by
  unfold gSt
  split
  · exact gle.re _
  split
  · exact ⟨fun j => upM_m _ _ _ j, ole.re _, ole_l _ _⟩
  split
  · exact ⟨fun j => ole.re _, ole.re _, ole_l _ _⟩
  split
  · split
    · exact ⟨fun j => ole.re _, ole_l _ _, ole.re _⟩
    · exact ⟨fun j => upM_m _ _ _ j, ole.re _, ole.re _⟩
  split
  · exact ⟨fun j => (upM_m _ _ _ j).tr (upM_m _ _ _ j), ole.re _, ole.re _⟩
  · exact ⟨fun j => upM_m _ _ _ j, ole.re _, ole.re _⟩
theorem gI_m (D : List IT) (cs : Nat → Nat) (inn : gIn) (q : Nat) : ∀ (K i : Nat) (st : gW), gle st (gI D cs inn q K i st)
  | 0, i, st => gle.re _
  | K + 1, i, st => by
    show gle st (if i < q then gI D cs inn q K (nx D i) (gSt D cs inn q i st) else st)
    split
    · exact (gSt_m D cs inn q i st).tr (gI_m D cs inn q K _ _)
    · exact gle.re _
/-- where a level is left for -/
def outK (D : List IT) (q : Nat) (out : Option Nat) : Prop := ∀ t, out = some t → q < t ∧ t ≤ D.length
theorem gSt_lo {D : List IT} {cs : Nat → Nat} {inn : gIn} {U : Nat} {R : Nat → Nat → Prop} {out : Option Nat} {q i : Nat} (h : okI D U R out q i) (hi : i < q) (hq : q ≤ D.length) (hD : D.length ≤ 3000) (ho : outK D q out) (st : gW) {j : Nat} (hj : j ≤ i) : (gSt D cs inn q i st).1 j = st.1 j := by
  have ad := LPk.adv h hi hq hD
  unfold gSt
  split
  · rfl
  split
  · exact upM_o _ _ (by omega)
  split
  · rfl
  split
  · rename_i c10
    obtain ⟨t, t1, t2⟩ := h.2.2.1 c10
    split
    · rfl
    · rename_i nq
      refine upM_o _ _ ?_
      rw [t1] at nq ⊢
      rcases t2 with w | w
      · obtain ⟨w1, w2⟩ := ho t w
        rw [nI_clamp (by omega)] at nq
        omega
      · have := w.1
        have := w.2.1
        rw [nI_clamp (by omega)]
        omega
  split
  · rename_i c11
    obtain ⟨t, t1, t2⟩ := h.2.2.2.1 c11
    have := t2.1
    have := t2.2.1
    show upM (upM st.1 (i + 1) _) _ _ j = _
    rw [upM_o _ _ (by rw [t1, nI_clamp (by omega)]; omega), upM_o _ _ (by omega)]
  · exact upM_o _ _ (by omega)
theorem gI_lo {D : List IT} {cs : Nat → Nat} {inn : gIn} {U : Nat} {R : Nat → Nat → Prop} {out : Option Nat} {q : Nat} (hq : q ≤ D.length) (hD : D.length ≤ 3000) (ho : outK D q out) : ∀ (K k i : Nat) (st : gW), LPk D U R out q k i → ∀ j, j ≤ i → (gI D cs inn q K i st).1 j = st.1 j
  | 0, k, i, st, _, j, _ => rfl
  | K + 1, k, i, st, h, j, hj => by
    show (if i < q then gI D cs inn q K (nx D i) (gSt D cs inn q i st) else st).1 j = _
    by_cases c : i < q
    · rw [if_pos c]
      cases k with
      | zero => have h : i = q := h; omega
      | succ k =>
        obtain ⟨h1, h2, h3, h4, h5⟩ := h
        rw [gI_lo hq hD ho K k (nx D i) _ h5 j (by omega)]
        exact gSt_lo h4 c hq hD ho st hj
    · rw [if_neg c]
/-- what the pass leaves for an instruction behind d steps -/
def Vd (D : List IT) (cs : Nat → Nat) (inn : gIn) (q : Nat) (r : gW) (i d : Nat) : Prop := ((D.getD i dIT).1 = 13 → ole (lpE (inn (i + 1) (nx D i - 1)) ((D.getD (i - 1) dIT).2.2.1).toNatClampNeg d) (r.1 (nx D i)) ∧ ole (lpL (inn (i + 1) (nx D i - 1)) ((D.getD (i - 1) dIT).2.2.1).toNatClampNeg d) r.2.2) ∧ ((D.getD i dIT).1 = 18 → ole (some (d + cs i)) r.2.2) ∧ ((D.getD i dIT).1 = 10 → (q < ((D.getD i dIT).2.1).toNatClampNeg → ole (some (d + cs i)) r.2.1) ∧ (¬ q < ((D.getD i dIT).2.1).toNatClampNeg → ole (some (d + cs i)) (r.1 ((D.getD i dIT).2.1).toNatClampNeg))) ∧ ((D.getD i dIT).1 = 11 → ole (some (d + cs i)) (r.1 (i + 1)) ∧ ole (some (d + cs i)) (r.1 ((D.getD i dIT).2.1).toNatClampNeg)) ∧ (¬ (D.getD i dIT).1 = 13 → ¬ (D.getD i dIT).1 = 18 → ¬ (D.getD i dIT).1 = 10 → ¬ (D.getD i dIT).1 = 11 → ole (some (d + cs i)) (r.1 (i + 1)))
theorem Vd.mo {D : List IT} {cs : Nat → Nat} {inn : gIn} {q : Nat} {r r' : gW} {i d : Nat} (h : Vd D cs inn q r i d) (g : gle r r') : Vd D cs inn q r' i d := by
  obtain ⟨h1, h2, h3, h4, h5⟩ := h
  exact ⟨fun z => ⟨(h1 z).1.tr (g.1 _), (h1 z).2.tr g.2.2⟩, fun z => (h2 z).tr g.2.2, fun z => ⟨fun w => ((h3 z).1 w).tr g.2.1, fun w => ((h3 z).2 w).tr (g.1 _)⟩, fun z => ⟨(h4 z).1.tr (g.1 _), (h4 z).2.tr (g.1 _)⟩, fun a b c e => (h5 a b c e).tr (g.1 _)⟩
theorem gSt_v {D : List IT} {cs : Nat → Nat} {inn : gIn} {q i : Nat} {st : gW} {d : Nat} (h : st.1 i = some d) : Vd D cs inn q (gSt D cs inn q i st) i d := by
  unfold gSt
  rw [h]
  dsimp only
  by_cases c13 : (D.getD i dIT).1 = 13
  · rw [if_pos c13]
    exact ⟨fun _ => ⟨upM_k _ _ _, ole_r _ _⟩, fun z => by rw [c13] at z; exact absurd z (by decide), fun z => by rw [c13] at z; exact absurd z (by decide), fun z => by rw [c13] at z; exact absurd z (by decide), fun z => absurd c13 z⟩
  rw [if_neg c13]
  by_cases c18 : (D.getD i dIT).1 = 18
  · rw [if_pos c18]
    exact ⟨fun z => absurd z c13, fun _ => ole_r _ _, fun z => by rw [c18] at z; exact absurd z (by decide), fun z => by rw [c18] at z; exact absurd z (by decide), fun _ z => absurd c18 z⟩
  rw [if_neg c18]
  by_cases c10 : (D.getD i dIT).1 = 10
  · rw [if_pos c10]
    refine ⟨fun z => absurd z c13, fun z => absurd z c18, fun _ => ⟨fun w => ?_, fun w => ?_⟩, fun z => by rw [c10] at z; exact absurd z (by decide), fun _ _ z => absurd c10 z⟩
    · rw [if_pos w]; exact ole_r _ _
    · rw [if_neg w]; exact upM_k _ _ _
  rw [if_neg c10]
  by_cases c11 : (D.getD i dIT).1 = 11
  · rw [if_pos c11]
    exact ⟨fun z => absurd z c13, fun z => absurd z c18, fun z => absurd z c10, fun _ => ⟨(upM_k _ _ _).tr (upM_m _ _ _ _), upM_k _ _ _⟩, fun _ _ _ z => absurd c11 z⟩
  · rw [if_neg c11]
    exact ⟨fun z => absurd z c13, fun z => absurd z c18, fun z => absurd z c10, fun z => absurd z c11, fun _ _ _ _ => upM_k _ _ _⟩
theorem gI_v {D : List IT} {cs : Nat → Nat} {inn : gIn} {U : Nat} {R : Nat → Nat → Prop} {out : Option Nat} {q : Nat} (hq : q ≤ D.length) (hD : D.length ≤ 3000) (ho : outK D q out) : ∀ (k i K : Nat) (st : gW), LPk D U R out q k i → q - i ≤ K → ∀ (k' j d : Nat), upD D k' i j → j < q → (gI D cs inn q K i st).1 j = some d → Vd D cs inn q (gI D cs inn q K i st) j d := by
  intro k
  induction k with
  | zero =>
    intro i K st h hK k' j d hj hjq
    have h : i = q := h
    have := hj.le
    omega
  | succ k ih =>
    intro i K st h hK k' j d hj hjq hd
    obtain ⟨h1, h2, h3, h4, h5⟩ := h
    obtain ⟨K', rfl⟩ : ∃ K', K = K' + 1 := ⟨K - 1, by omega⟩
    rw [gI_s D cs inn h1] at hd ⊢
    cases k' with
    | zero =>
      have hj : i = j := hj
      subst hj
      rw [gI_lo hq hD ho K' k (nx D i) _ h5 i (by omega), gSt_lo h4 h1 hq hD ho st (Nat.le_refl _)] at hd
      exact (gSt_v hd).mo (gI_m D cs inn q K' _ _)
    | succ k' => exact ih (nx D i) K' _ h5 (by omega) k' j d hj.2 hjq hd
/-- a level that isn't left for anywhere -/
theorem gI_x {D : List IT} {cs : Nat → Nat} {inn : gIn} {U : Nat} {R : Nat → Nat → Prop} {q : Nat} (hq : q ≤ D.length) (hD : D.length ≤ 3000) : ∀ (K k i : Nat) (st : gW), LPk D U R none q k i → (gI D cs inn q K i st).2.1 = st.2.1
  | 0, k, i, st, _ => rfl
  | K + 1, k, i, st, h => by
    show (if i < q then gI D cs inn q K (nx D i) (gSt D cs inn q i st) else st).2.1 = _
    by_cases c : i < q
    · rw [if_pos c]
      cases k with
      | zero => have h : i = q := h; omega
      | succ k =>
        obtain ⟨h1, h2, h3, h4, h5⟩ := h
        rw [gI_x hq hD K k (nx D i) _ h5]
        unfold gSt
        split
        · rfl
        split
        · rfl
        split
        · rfl
        split
        · rename_i c10
          obtain ⟨t, t1, t2⟩ := h4.2.2.1 c10
          rcases t2 with w | w
          · cases w
          · have := w.2.1
            rw [if_neg (by rw [t1, nI_clamp (by omega)]; omega)]
        split
        · rfl
        · rfl
    · rw [if_neg c]
/-- all that a level may take -/
def gTm (r : Option Nat × Option Nat × Option Nat) : Option Nat := omx r.1 (omx r.2.1 r.2.2)
theorem gTm_1 (r : Option Nat × Option Nat × Option Nat) : ole r.1 (gTm r) := ole_l _ _
theorem gTm_2 (r : Option Nat × Option Nat × Option Nat) : ole r.2.1 (gTm r) := (ole_l _ _).tr (ole_r _ _)
theorem gTm_3 (r : Option Nat × Option Nat × Option Nat) : ole r.2.2 (gTm r) := (ole_r _ _).tr (ole_r _ _)
theorem omx_e {a b : Option Nat} {m : Nat} (h : omx a b = some m) : a = some m ∨ b = some m := by
  cases a with
  | none => exact Or.inr h
  | some a =>
    cases b with
    | none => exact Or.inl h
    | some b =>
      have h : max a b = m := Option.some.inj h
      rcases Nat.le_total a b with q | q
      · exact Or.inr (by rw [← h, Nat.max_eq_right q])
      · exact Or.inl (by rw [← h, Nat.max_eq_left q])
theorem gTm_e {r : Option Nat × Option Nat × Option Nat} {m : Nat} (h : gTm r = some m) : r.1 = some m ∨ r.2.1 = some m ∨ r.2.2 = some m := (omx_e h).imp id omx_e
/-- what comes behind a loop, or is ended in it, comes later -/
theorem lp_some {r : Option Nat × Option Nat × Option Nat} {m : Nat} (h : gTm r = some m) (n d : Nat) : (∃ a, lpE r n d = some a ∧ d ≤ a) ∨ ∃ a, lpL r n d = some a ∧ d ≤ a := by
  unfold lpE lpL
  by_cases c : n = 0
  · rw [if_pos c]
    exact Or.inl ⟨d + 1, rfl, by omega⟩
  · rw [if_neg c, if_neg c]
    rcases gTm_e h with e | e | e
    · left
      rw [e]
      obtain ⟨a, a1, a2⟩ := ole_l (some (d + n * (m + 2) + 1)) (r.2.1.map (fun x => d + (n - 1) * (m + 2) + 1 + x)) _ rfl
      exact ⟨a, a1, by omega⟩
    · left
      rw [e]
      obtain ⟨a, a1, a2⟩ := ole_r (r.1.map (fun e => d + n * (e + 2) + 1)) (some (d + (match r.1 with | some e => (n - 1) * (e + 2) | none => 0) + 1 + m)) _ rfl
      exact ⟨a, a1, by omega⟩
    · right
      rw [e]
      exact ⟨_, rfl, by dsimp only; omega⟩
theorem LPk.to {D : List IT} {U : Nat} {R : Nat → Nat → Prop} {out : Option Nat} {q : Nat} : ∀ (k' k i t : Nat), LPk D U R out q k i → upD D k' i t → t ≤ q → ∃ k'', LPk D U R out q k'' t
  | 0, k, i, t, h, hu, _ => by
    have hu : i = t := hu
    rw [← hu]
    exact ⟨k, h⟩
  | k' + 1, k, i, t, h, hu, ht => by
    cases k with
    | zero =>
      have h : i = q := h
      have := hu.1
      have := hu.2.le
      omega
    | succ k => exact LPk.to k' k (nx D i) t h.2.2.2.2 hu.2 ht
/-- the state behind the pass over a level -/
def gRs (D : List IT) (cs : Nat → Nat) (N a q : Nat) : gW := gI D cs (gT D cs N) q (q - a) a (fun k => if k = a then some 0 else none, none, none)
theorem gT_s (D : List IT) (cs : Nat → Nat) (N a q : Nat) : gT D cs (N + 1) a q = ((gRs D cs N a q).1 q, (gRs D cs N a q).2.1, (gRs D cs N a q).2.2) := rfl
theorem gR_v {D : List IT} {cs : Nat → Nat} {U N : Nat} {out : Option Nat} {a q : Nat} (h : LPz D U N out a q) (hq : q ≤ D.length) (hD : D.length ≤ 3000) (ho : outK D q out) {k' j d : Nat} (hj : upD D k' a j) (hjq : j < q) (hd : (gRs D cs N a q).1 j = some d) : Vd D cs (gT D cs N) q (gRs D cs N a q) j d := by
  obtain ⟨k, h⟩ := h
  exact gI_v hq hD ho k a (q - a) _ h (Nat.le_refl _) k' j d hj hjq hd
theorem gR_a (D : List IT) (cs : Nat → Nat) (N a q : Nat) : ∃ d, (gRs D cs N a q).1 a = some d := by
  obtain ⟨d, d1, -⟩ := (gI_m D cs (gT D cs N) q (q - a) a (fun k => if k = a then some 0 else none, none, none)).1 a 0 (by show (if a = a then some 0 else none) = some 0; rw [if_pos rfl])
  exact ⟨d, d1⟩
theorem gR_a0 {D : List IT} {cs : Nat → Nat} {U N : Nat} {out : Option Nat} {a q : Nat} (h : LPz D U N out a q) (hq : q ≤ D.length) (hD : D.length ≤ 3000) (ho : outK D q out) : (gRs D cs N a q).1 a = some 0 := by
  obtain ⟨k, h⟩ := h
  unfold gRs
  rw [gI_lo hq hD ho _ k a _ h a (Nat.le_refl _)]
  show (if a = a then some 0 else none) = some 0
  rw [if_pos rfl]
theorem upD.sn {D : List IT} {k a i : Nat} (h : upD D k a i) (hn : i < nx D i) : upD D (k + 1) a (nx D i) := upD.tr (k' := 1) ⟨hn, rfl⟩ h
/-- every number on a level's way is no more than what the level may take -/
theorem gR_fl {D : List IT} {cs : Nat → Nat} {U : Nat} (hD : D.length ≤ 3000) : ∀ (N : Nat) (out : Option Nat) (a q : Nat), LPz D U N out a q → q ≤ D.length → outK D q out → ∀ (g j k' : Nat), q - j ≤ g → upD D k' a j → j ≤ q → ole ((gRs D cs N a q).1 j) (gTm (gT D cs (N + 1) a q)) := by
  intro N
  induction N with
  | zero =>
    intro out a q h hq ho g
    induction g with
    | zero =>
      intro j k' hg hu hj
      rw [show j = q by omega]
      exact gTm_1 (gT D cs (0 + 1) a q)
    | succ g ih =>
      intro j k' hg hu hj
      rcases Nat.lt_or_ge j q with c | c
      · intro d hd
        obtain ⟨k, h'⟩ := h
        obtain ⟨k2, hk2⟩ := LPk.to k' k a j h' hu hj
        cases k2 with
        | zero => have hk2 : j = q := hk2; omega
        | succ k2 =>
          obtain ⟨-, -, a3, a4, a5⟩ := hk2
          have le := a5.le
          obtain ⟨v1, v2, v3, v4, v5⟩ := gR_v ⟨k, h'⟩ hq hD ho hu c hd
          by_cases c13 : (D.getD j dIT).1 = 13
          · obtain ⟨-, b, -, -, -, -, b5⟩ := a4.2.2.2.2 c13
            exact absurd b5 (fun z => z)
          have en : nx D j = j + 1 := by unfold nx; rw [if_neg c13]
          have hu1 := hu.sn a3
          rw [en] at hu1 le
          have nxt : ole (some (d + cs j)) ((gRs D cs 0 a q).1 (j + 1)) → ∃ b, gTm (gT D cs (0 + 1) a q) = some b ∧ d ≤ b := fun z => (ole_s z (by omega)).tr (ih (j + 1) _ (by omega) hu1 le) d rfl
          by_cases c18 : (D.getD j dIT).1 = 18
          · exact (ole_s (v2 c18) (by omega)).tr (gTm_3 (gT D cs (0 + 1) a q)) d rfl
          by_cases c10 : (D.getD j dIT).1 = 10
          · by_cases w : q < ((D.getD j dIT).2.1).toNatClampNeg
            · exact (ole_s ((v3 c10).1 w) (by omega)).tr (gTm_2 (gT D cs (0 + 1) a q)) d rfl
            · obtain ⟨t, t1, t2⟩ := a4.2.2.1 c10
              have t3 : TQ D (j + 1) t q := by
                rcases t2 with y | y
                · obtain ⟨y1, y2⟩ := ho t y
                  rw [t1, nI_clamp (by omega)] at w
                  omega
                · exact y
              obtain ⟨u1, u2, k3, u3⟩ := t3
              have z := (v3 c10).2 w
              rw [t1, nI_clamp (by omega)] at z
              exact (ole_s z (by omega)).tr (ih t _ (by omega) (u3.tr hu1) u2) d rfl
          by_cases c11 : (D.getD j dIT).1 = 11
          · exact nxt (v4 c11).1
          · exact nxt (v5 c13 c18 c10 c11)
      · rw [show j = q by omega]
        exact gTm_1 (gT D cs (0 + 1) a q)
  | succ N ihN =>
    intro out a q h hq ho g
    induction g with
    | zero =>
      intro j k' hg hu hj
      rw [show j = q by omega]
      exact gTm_1 (gT D cs (N + 1 + 1) a q)
    | succ g ih =>
      intro j k' hg hu hj
      rcases Nat.lt_or_ge j q with c | c
      · intro d hd
        obtain ⟨k, h'⟩ := h
        obtain ⟨k2, hk2⟩ := LPk.to k' k a j h' hu hj
        cases k2 with
        | zero => have hk2 : j = q := hk2; omega
        | succ k2 =>
          obtain ⟨-, -, a3, a4, a5⟩ := hk2
          have le := a5.le
          obtain ⟨v1, v2, v3, v4, v5⟩ := gR_v ⟨k, h'⟩ hq hD ho hu c hd
          have hu1 := hu.sn a3
          by_cases c13 : (D.getD j dIT).1 = 13
          · obtain ⟨-, b, b1, b2, b3, b4, b5⟩ := a4.2.2.2.2 c13
            have en : nx D j = b := by unfold nx; rw [if_pos c13, b1, nI_clamp (by omega)]
            have inn : LPz D U N (some b) (j + 1) (b - 1) := b5
            have oi : outK D (b - 1) (some b) := fun t ht => by rw [← Option.some.inj ht]; omega
            obtain ⟨m, m1, -⟩ := ihN (some b) (j + 1) (b - 1) inn (by omega) oi (b - 1 - (j + 1)) (j + 1) 0 (Nat.le_refl _) rfl inn.le 0 (gR_a0 inn (by omega) hD oi)
            obtain ⟨w1, w2⟩ := v1 c13
            rw [en] at w1 w2 hu1
            rcases lp_some m1 ((D.getD (j - 1) dIT).2.2.1).toNatClampNeg d with ⟨x, x1, x2⟩ | ⟨x, x1, x2⟩
            · rw [x1] at w1
              exact (ole_s w1 x2).tr (ih b _ (by omega) hu1 b3) d rfl
            · rw [x1] at w2
              exact (ole_s w2 x2).tr (gTm_3 (gT D cs (N + 1 + 1) a q)) d rfl
          have en : nx D j = j + 1 := by unfold nx; rw [if_neg c13]
          rw [en] at hu1 le
          have nxt : ole (some (d + cs j)) ((gRs D cs (N + 1) a q).1 (j + 1)) → ∃ b, gTm (gT D cs (N + 1 + 1) a q) = some b ∧ d ≤ b := fun z => (ole_s z (by omega)).tr (ih (j + 1) _ (by omega) hu1 le) d rfl
          by_cases c18 : (D.getD j dIT).1 = 18
          · exact (ole_s (v2 c18) (by omega)).tr (gTm_3 (gT D cs (N + 1 + 1) a q)) d rfl
          by_cases c10 : (D.getD j dIT).1 = 10
          · by_cases w : q < ((D.getD j dIT).2.1).toNatClampNeg
            · exact (ole_s ((v3 c10).1 w) (by omega)).tr (gTm_2 (gT D cs (N + 1 + 1) a q)) d rfl
            · obtain ⟨t, t1, t2⟩ := a4.2.2.1 c10
              have t3 : TQ D (j + 1) t q := by
                rcases t2 with y | y
                · obtain ⟨y1, y2⟩ := ho t y
                  rw [t1, nI_clamp (by omega)] at w
                  omega
                · exact y
              obtain ⟨u1, u2, k3, u3⟩ := t3
              have z := (v3 c10).2 w
              rw [t1, nI_clamp (by omega)] at z
              exact (ole_s z (by omega)).tr (ih t _ (by omega) (u3.tr hu1) u2) d rfl
          by_cases c11 : (D.getD j dIT).1 = 11
          · exact nxt (v4 c11).1
          · exact nxt (v5 c13 c18 c10 c11)
      · rw [show j = q by omega]
        exact gTm_1 (gT D cs (N + 1 + 1) a q)
