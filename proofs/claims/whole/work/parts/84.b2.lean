/-! THE PURE MACHINE IS SAFE: steps -/
/-- from here on the run ends so that P -/
def XOk (Us : Nat → List IT) (bs : Nat → Option Nat) (now : Int32) (u b : Nat) (P : XR → Prop) (i : Nat) (S : List Int32) (M : Nat → Int32) (n : Nat) : Prop := ∃ f R, exU Us bs now f u b i S M n = some R ∧ P R
section XO
variable {Us : Nat → List IT} {bs : Nat → Option Nat} {now : Int32} {u b : Nat} {P : XR → Prop} {i : Nat} {S : List Int32} {M : Nat → Int32} {n : Nat} {x : IT}
theorem XOk.en (hx : (Us u)[i]? = none) (h : P (.inl (S, M, n))) : XOk Us bs now u b P i S M n := by
  refine ⟨1, _, ?_, h⟩
  unfold exU
  rw [hx]
theorem XOk.jp (hx : (Us u)[i]? = some x) (ho : x.1 = 10 ∨ x.1 = 14) {t : Nat} (ht : tgN x.2.1 = some t) (h : XOk Us bs now u b P t S M (n + 1)) : XOk Us bs now u b P i S M n := by
  obtain ⟨f, R, h1, h2⟩ := h
  refine ⟨f + 1, R, ?_, h2⟩
  unfold exU
  rw [hx]
  dsimp only
  rw [if_pos ho, ht]
  exact h1
theorem XOk.br (hx : (Us u)[i]? = some x) (ho : x.1 = 11) {t : Nat} (ht : tgN x.2.1 = some t) {v : Int32} (h : XOk Us bs now u b P (if v = 0 then t else i + 1) S M (n + 1)) : XOk Us bs now u b P i (v :: S) M n := by
  obtain ⟨f, R, h1, h2⟩ := h
  refine ⟨f + 1, R, ?_, h2⟩
  unfold exU
  rw [hx]
  dsimp only
  rw [ho, if_neg (by decide), if_pos rfl, ht]
  exact h1
theorem XOk.nx (hx : (Us u)[i]? = some x) (ho : x.1 = 13) {c t : Nat} (hc : celI b x.2.1 = some c) (ht : tgN x.2.2.1 = some t) (h0 : M c = 0 → XOk Us bs now u b P t S M (n + 1)) (h1 : ¬ M c = 0 → XOk Us bs now u b P (i + 1) S (upd M c (M c - 1)) (n + 1)) : XOk Us bs now u b P i S M n := by
  by_cases q : M c = 0
  · obtain ⟨f, R, h1, h2⟩ := h0 q
    refine ⟨f + 1, R, ?_, h2⟩
    unfold exU
    rw [hx]
    dsimp only
    rw [ho, if_neg (by decide), if_neg (by decide), if_pos rfl, hc, ht]
    dsimp only
    rw [if_pos q]
    exact h1
  · obtain ⟨f, R, h1, h2⟩ := h1 q
    refine ⟨f + 1, R, ?_, h2⟩
    unfold exU
    rw [hx]
    dsimp only
    rw [ho, if_neg (by decide), if_neg (by decide), if_pos rfl, hc, ht]
    dsimp only
    rw [if_neg q]
    exact h1
theorem XOk.lv (hx : (Us u)[i]? = some x) (ho : x.1 = 18) (h : P (.inl (S, M, n + 1))) : XOk Us bs now u b P i S M n := by
  refine ⟨1, _, ?_, h⟩
  unfold exU
  rw [hx]
  dsimp only
  rw [ho, if_neg (by decide), if_neg (by decide), if_neg (by decide), if_neg (by decide), if_pos rfl]
theorem XOk.ca (hx : (Us u)[i]? = some x) (ho : x.1 = 15 ∨ x.1 = 16) {q : Nat} (hq : (if x.1 = 15 then (if 0 ≤ x.2.2.1 then some (b + x.2.2.1.toNatClampNeg) else none) else bs x.2.1.toNatClampNeg) = some q) (hk : 0 ≤ x.2.1 ∧ x.2.1.toNatClampNeg < u ∧ q ≤ 8192) {f1 : Nat} {R1 : XR} (h1 : exU Us bs now f1 x.2.1.toNatClampNeg q 0 S M (n + 1) = some R1) (hl : ∀ r, R1 = .inl r → XOk Us bs now u b P (i + 1) r.1 r.2.1 r.2.2) (hr : ∀ r, R1 = .inr r → P (.inr r)) : XOk Us bs now u b P i S M n := by
  have e1 : ¬ (x.1 = 10 ∨ x.1 = 14) ∧ ¬ x.1 = 11 ∧ ¬ x.1 = 13 := by rcases ho with z | z <;> rw [z] <;> decide
  rcases R1 with r | r
  · obtain ⟨f, R, h3, h2⟩ := hl r rfl
    refine ⟨f1 + f + 1, R, ?_, h2⟩
    unfold exU
    rw [hx]
    dsimp only
    rw [if_neg e1.1, if_neg e1.2.1, if_neg e1.2.2, if_pos ho, hq]
    dsimp only
    rw [if_pos hk, exU_f h1 f]
    dsimp only
    rw [Nat.add_comm]
    exact exU_f h3 f1
  · refine ⟨f1 + 1, _, ?_, hr r rfl⟩
    unfold exU
    rw [hx]
    dsimp only
    rw [if_neg e1.1, if_neg e1.2.1, if_neg e1.2.2, if_pos ho, hq]
    dsimp only
    rw [if_pos hk, h1]
theorem XOk.go (hx : (Us u)[i]? = some x) (ho : ¬ (x.1 = 10 ∨ x.1 = 14) ∧ ¬ x.1 = 11 ∧ ¬ x.1 = 13 ∧ ¬ (x.1 = 15 ∨ x.1 = 16) ∧ ¬ x.1 = 18) {r : List Int32 × (Nat → Int32)} (e : oxP b bs now x S M = some (.inl r)) (h : XOk Us bs now u b P (i + 1) r.1 r.2 (n + 1)) : XOk Us bs now u b P i S M n := by
  obtain ⟨f, R, h1, h2⟩ := h
  refine ⟨f + 1, R, ?_, h2⟩
  unfold exU
  rw [hx]
  dsimp only
  rw [if_neg ho.1, if_neg ho.2.1, if_neg ho.2.2.1, if_neg ho.2.2.2.1, if_neg ho.2.2.2.2, e]
  exact h1
theorem XOk.ft (hx : (Us u)[i]? = some x) (ho : ¬ (x.1 = 10 ∨ x.1 = 14) ∧ ¬ x.1 = 11 ∧ ¬ x.1 = 13 ∧ ¬ (x.1 = 15 ∨ x.1 = 16) ∧ ¬ x.1 = 18) {c : Int32} (e : oxP b bs now x S M = some (.inr c)) (h : P (.inr (c, M, n + 1))) : XOk Us bs now u b P i S M n := by
  refine ⟨1, _, ?_, h⟩
  unfold exU
  rw [hx]
  dsimp only
  rw [if_neg ho.1, if_neg ho.2.1, if_neg ho.2.2.1, if_neg ho.2.2.2.1, if_neg ho.2.2.2.2, e]
end XO
/-- the cells of its unit that an instruction may write -/
def wrR (σ : RS) (x : IT) (r : Nat) : Prop := ((x.1 = 2 ∨ x.1 = 12 ∨ x.1 = 13) ∧ r = x.2.1.toNatClampNeg) ∨ (x.1 = 4 ∧ x.2.1.toNatClampNeg ≤ r ∧ r < x.2.1.toNatClampNeg + x.2.2.2.1.toNatClampNeg) ∨ (x.1 = 15 ∧ x.2.2.1.toNatClampNeg ≤ r ∧ r < x.2.2.1.toNatClampNeg + cN σ x.2.1.toNatClampNeg) ∨ (x.1 = 17 ∧ x.2.2.1.toNatClampNeg ≤ r ∧ r < x.2.2.1.toNatClampNeg + szK x.2.1.toNatClampNeg)
/-- a cell of an earlier function -/
def FRg (σ : RS) (u c : Nat) : Prop := ∃ g, g < u ∧ (σ.1.getD g dBK).1 = 1 ∧ bsN σ g ≤ c ∧ c < bsN σ g + cN σ g
def wrA (σ : RS) (u b : Nat) (x : IT) (c : Nat) : Prop := (∃ r, c = b + r ∧ wrR σ x r) ∨ ((x.1 = 6 ∨ x.1 = 15 ∨ x.1 = 16) ∧ FRg σ u c)
/-- an instruction whose operands are as they should be; its cells keep W -/
def itS (σ : RS) (u : Nat) (W : Nat → Prop) (x : IT) : Prop := (x.1 = 1 ∨ x.1 = 2 ∨ x.1 = 12 ∨ x.1 = 13 → ∃ c, x.2.1 = nI c ∧ c < cN σ u) ∧ (x.1 = 3 ∨ x.1 = 4 → ∃ c z, x.2.1 = nI c ∧ x.2.2.2.1 = nI z ∧ z < 2 ^ 30 ∧ c + z ≤ cN σ u) ∧ (x.1 = 5 ∨ x.1 = 6 → ∃ g c, x.2.1 = nI g ∧ g < u ∧ (σ.1.getD g dBK).1 = 1 ∧ x.2.2.1 = nI c ∧ c < cN σ g) ∧ (x.1 = 7 → 0 ≤ x.2.1 ∧ x.2.1 ≤ 24) ∧ (x.1 = 15 → ∃ k c, x.2.1 = nI k ∧ k < u ∧ x.2.2.1 = nI c ∧ c + cN σ k ≤ cN σ u) ∧ (x.1 = 16 → ∃ g, x.2.1 = nI g ∧ g < u ∧ (σ.1.getD g dBK).1 = 1) ∧ (x.1 = 17 → ∃ k c, x.2.1 = nI k ∧ k < 9 ∧ x.2.2.1 = nI c ∧ c + szK k ≤ cN σ u) ∧ ∀ r, wrR σ x r → W r
theorem itS.mo {σ : RS} {u : Nat} {W W' : Nat → Prop} {x : IT} (h : itS σ u W x) (hW : ∀ r, W r → W' r) : itS σ u W' x := ⟨h.1, h.2.1, h.2.2.1, h.2.2.2.1, h.2.2.2.2.1, h.2.2.2.2.2.1, h.2.2.2.2.2.2.1, fun r q => hW r (h.2.2.2.2.2.2.2 r q)⟩
/-- a base at which a unit can be run -/
def FitB (σ : RS) (u b : Nat) : Prop := b + cN σ u ≤ 8192 ∧ ∀ c, b ≤ c → c < b + cN σ u → ¬ FRg σ u c
theorem celI_n {b c : Nat} (h : b + c < 8192) : celI b (nI c) = some (b + c) := by
  unfold celI
  rw [nI_clamp (by omega), if_pos ⟨nI_le (a := 0) (Nat.zero_le _) (by omega), h⟩]
theorem elI_n {b : Nat} {x : IT} {c z : Nat} (e1 : x.2.1 = nI c) (e2 : x.2.2.2.1 = nI z) (hz : z < 2 ^ 30) (h : b + c + z ≤ 8192) (i : Int32) : elI b x i = some none ∨ ∃ k, k < z ∧ elI b x i = some (some (b + c + k)) := by
  unfold elI
  rw [e1, e2, nI_clamp (by omega), nI_toInt (by omega)]
  by_cases q : 0 ≤ i.toInt - x.2.2.1.toInt ∧ i.toInt - x.2.2.1.toInt < (z : Int)
  · rw [if_pos q]
    refine Or.inr ⟨(i.toInt - x.2.2.1.toInt).toNat, by omega, ?_⟩
    rw [if_pos ⟨nI_le (a := 0) (Nat.zero_le _) (by omega), by omega⟩]
  · rw [if_neg q]
    exact Or.inl rfl
theorem tm0_o (M : Nat → Int32) (c : Nat) (on el w : Int32) {r : Nat} (h : r < c ∨ c + 6 ≤ r) : tm0 M c on el w r = M r := by
  unfold tm0
  rw [upd_at, if_neg (by omega), upd_at, if_neg (by omega)]
theorem tm1_o (M : Nat → Int32) (c : Nat) (on was l w : Int32) {r : Nat} (h : r < c ∨ c + 6 ≤ r) : tm1 M c on was l w r = M r := by
  unfold tm1
  split
  · split
    · split
      · rfl
      · rw [upd_at, if_neg (by omega), upd_at, if_neg (by omega)]
    · rw [upd_at, if_neg (by omega), upd_at, if_neg (by omega)]
  · rw [upd_at, if_neg (by omega), upd_at, if_neg (by omega)]
theorem tm2a_o (M : Nat → Int32) (c : Nat) (l w : Int32) {r : Nat} (h : r < c ∨ c + 6 ≤ r) : tm2a M c l w r = M r := by
  unfold tm2a
  split
  · rfl
  · split
    · rw [upd_at, if_neg (by omega)]
    · rw [upd_at, if_neg (by omega), upd_at, if_neg (by omega)]
theorem tm2b_o (M : Nat → Int32) (c : Nat) (on was w : Int32) {r : Nat} (h : r < c ∨ c + 6 ≤ r) : tm2b M c on was w r = M r := by
  unfold tm2b
  split
  · split
    · rw [upd_at, if_neg (by omega)]
    · split
      · rw [upd_at, if_neg (by omega), upd_at, if_neg (by omega)]
      · rfl
  · rfl
/-- a standard block writes its own cells alone -/
theorem bkF_o (k : Nat) (now : Int32) (c : Nat) (M : Nat → Int32) {r : Nat} (h : r < c ∨ c + szK k ≤ r) : bkF k now c M r = M r := by
  unfold szK at h
  unfold bkF
  split
  · rename_i k3
    rw [if_pos (by omega)] at h
    unfold tmrF
    rw [upd_at, if_neg (by omega), upd_at, if_neg (by omega)]
    split
    · exact tm0_o _ _ _ _ _ h
    · split
      · exact tm1_o _ _ _ _ _ _ h
      · rw [tm2b_o _ _ _ _ _ h, tm2a_o _ _ _ _ h]
  · split
    · rw [if_pos (by omega)] at h
      unfold ctF
      rw [upd_at, if_neg (by omega), upd_at, if_neg (by omega), upd_at, if_neg (by omega)]
    · rw [if_neg (by omega)] at h
      split
      · unfold egF
        rw [upd_at, if_neg (by omega), upd_at, if_neg (by omega)]
      · unfold srF
        rw [upd_at, if_neg (by omega)]
theorem two_l {V : List Int32} {h : Nat} (e : V.length = h) (k : 2 ≤ h) : ∃ y z V', V = y :: z :: V' ∧ V'.length = h - 2 := by
  match V, e with
  | [], e => have e : 0 = h := e; omega
  | [_], e => have e : 1 = h := e; omega
  | y :: z :: V', e => exact ⟨y, z, V', rfl, by rw [← e]; rfl⟩
theorem one_l {V : List Int32} {h : Nat} (e : V.length = h) (k : 1 ≤ h) : ∃ y V', V = y :: V' ∧ V'.length = h - 1 := by
  match V, e with
  | [], e => have e : 0 = h := e; omega
  | y :: V', e => exact ⟨y, V', rfl, by rw [← e]; rfl⟩
theorem three_l {V : List Int32} {h : Nat} (e : V.length = h) (k : 3 ≤ h) : ∃ y z c V', V = y :: z :: c :: V' ∧ V'.length = h - 3 := by
  match V, e with
  | [], e => have e : 0 = h := e; omega
  | [_], e => have e : 1 = h := e; omega
  | [_, _], e => have e : 2 = h := e; omega
  | y :: z :: c :: V', e => exact ⟨y, z, c, V', rfl, by rw [← e]; rfl⟩
/-- an instruction that goes on goes on, or tells a fault -/
theorem ox_s {m0 : yM} {T : Nat} {F : List ND} {s : SU} (hp : HP m0 T F s) {u b : Nat} (hu : u < s.1.1.length) {W : Nat → Prop} {x : IT} (hi : itS s.1 u W x) (hf : FitB s.1 u b) {h : Nat} {f : Bool} {s' : Nat × Bool} (hs : hS x.1 (h, f) = some s') (ho : ¬ (x.1 = 10 ∨ x.1 = 14) ∧ ¬ x.1 = 11 ∧ ¬ x.1 = 13 ∧ ¬ (x.1 = 15 ∨ x.1 = 16) ∧ ¬ x.1 = 18) {V S0 : List Int32} (hV : V.length = h) (hl : s'.1 + S0.length ≤ 1024) (now : Int32) (M : Nat → Int32) : (∃ V' M', oxP b (bsF s.1) now x (V ++ S0) M = some (.inl (V' ++ S0, M')) ∧ V'.length = s'.1 ∧ (∀ c, ¬ wrA s.1 u b x c → M' c = M c) ∧ (x.1 = 12 → M' (b + x.2.1.toNatClampNeg) = x.2.2.1)) ∨ ∃ c, oxP b (bsF s.1) now x (V ++ S0) M = some (.inr c) := by
  obtain ⟨i1, i2, i3, i4, -, -, i7, -⟩ := hi
  obtain ⟨hc, -⟩ := hp.c hu |>.symm
  have h8 := hf.1
  have n37 := hc
  rcases hS_i hs with ⟨q, -⟩ | ⟨-, q⟩
  · exact absurd q ho.2.2.1
  have cel : ∀ c, c < cN s.1 u → celI b (nI c) = some (b + c) := fun c hc => celI_n (by omega)
  have fn : x.1 = 5 ∨ x.1 = 6 → ∃ g c, g < u ∧ (s.1.1.getD g dBK).1 = 1 ∧ c < cN s.1 g ∧ fnI (bsF s.1) x = some (bsN s.1 g + c) := fun z => by
    obtain ⟨g, c, e1, e2, e3, e4, e5⟩ := i3 z
    obtain ⟨p1, -⟩ := hp.fn (b := g) (by omega) e3
    have l16 := hp.l.2.1
    refine ⟨g, c, e2, e3, e5, ?_⟩
    unfold fnI bsF
    rw [e1, nI_clamp (by omega), if_pos ⟨by omega, e3⟩]
    dsimp only
    rw [if_pos (show (0 : Int32) ≤ nI _ from nI_le (a := 0) (Nat.zero_le _) (by omega)), e4]
    exact celI_n (by omega)
  unfold oxP
  rcases q with ⟨c, rfl⟩ | ⟨c, k, rfl⟩ | ⟨c, k, rfl⟩ | ⟨c, k, rfl⟩ | ⟨c, k, rfl⟩ | ⟨c, k, rfl⟩ | ⟨c, k, rfl⟩ | ⟨c, k, rfl⟩ | ⟨c, rfl⟩ | ⟨c, k, rfl⟩
  · have hl : h + 1 + S0.length ≤ 1024 := hl
    have ll : (V ++ S0).length < 1024 := by rw [List.length_append, hV]; omega
    rcases c with c | c | c
    · left
      rw [if_pos c, if_pos ll]
      exact ⟨x.2.1 :: V, M, rfl, by rw [List.length_cons, hV], fun _ _ => rfl, fun z => by rw [c] at z; exact absurd z (by decide)⟩
    · left
      obtain ⟨a, e1, e2⟩ := i1 (Or.inl c)
      rw [c, if_neg (by decide), if_pos rfl, e1, cel a e2]
      unfold opLd
      try dsimp only
      rw [if_pos ll]
      exact ⟨M (b + a) :: V, M, rfl, by rw [List.length_cons, hV], fun _ _ => rfl, fun z => absurd z (by decide)⟩
    · left
      obtain ⟨g, a, e1, e2, e3, e4⟩ := fn (Or.inl c)
      rw [e4, c, if_neg (by decide), if_neg (by decide), if_neg (by decide), if_neg (by decide), if_neg (by decide), if_pos rfl]
      unfold opLd
      try dsimp only
      rw [if_pos ll]
      exact ⟨M (bsN s.1 g + a) :: V, M, rfl, by rw [List.length_cons, hV], fun _ _ => rfl, fun z => absurd z (by decide)⟩
  · obtain ⟨y, V', rfl, hV'⟩ := one_l hV k
    left
    rcases c with c | c
    · obtain ⟨a, e1, e2⟩ := i1 (Or.inr (Or.inl c))
      refine ⟨V', upd M (b + a) y, ?_, hV', fun r hr => ?_, fun z => by rw [c] at z; exact absurd z (by decide)⟩
      · rw [c, if_neg (by decide), if_neg (by decide), if_pos rfl, e1, cel a e2]
        rfl
      · rw [upd_at, if_neg (fun z => hr (Or.inl ⟨a, z, Or.inl ⟨Or.inl c, by rw [e1, nI_clamp (by omega)]⟩⟩))]
    · obtain ⟨g, a, e1, e2, e3, e4⟩ := fn (Or.inr c)
      refine ⟨V', upd M (bsN s.1 g + a) y, ?_, hV', fun r hr => ?_, fun z => by rw [c] at z; exact absurd z (by decide)⟩
      · rw [e4, c, if_neg (by decide), if_neg (by decide), if_neg (by decide), if_neg (by decide), if_neg (by decide), if_neg (by decide), if_pos rfl]
        rfl
      · rw [upd_at, if_neg (fun z => hr (Or.inr ⟨Or.inl c, g, e1, e2, by omega, by omega⟩))]
  · obtain ⟨y, V', rfl, hV'⟩ := one_l hV k
    rcases c with c | c
    · obtain ⟨a, z, e1, e2, e3, e4⟩ := i2 (Or.inl c)
      have et : oxP b (bsF s.1) now x (y :: V' ++ S0) M = opTake b x M (y :: (V' ++ S0)) := by
        unfold oxP
        rw [c, if_neg (by decide), if_neg (by decide), if_neg (by decide), if_pos rfl]
        rfl
      unfold oxP at et
      rw [et]
      unfold opTake
      try dsimp only
      rcases elI_n (b := b) e1 e2 e3 (by omega) y with w | ⟨j, j1, w⟩
      · right
        rw [w]
        exact ⟨_, rfl⟩
      · left
        rw [w]
        exact ⟨M (b + a + j) :: V', M, rfl, by rw [List.length_cons, hV']; show _ = h; omega, fun _ _ => rfl, fun q => by rw [c] at q; exact absurd q (by decide)⟩
    · left
      refine ⟨one_ x.2.1 y :: V', M, ?_, by rw [List.length_cons, hV']; show _ = h; omega, fun _ _ => rfl, fun q => by rw [c] at q; exact absurd q (by decide)⟩
      rw [c, if_neg (by decide), if_neg (by decide), if_neg (by decide), if_neg (by decide), if_neg (by decide), if_neg (by decide), if_neg (by decide), if_neg (by decide), if_pos rfl]
      rfl
  · obtain ⟨y, w, V', rfl, hV'⟩ := two_l hV k
    obtain ⟨a, z, e1, e2, e3, e4⟩ := i2 (Or.inr c)
    have et : oxP b (bsF s.1) now x (y :: w :: V' ++ S0) M = opPut b x M (y :: w :: (V' ++ S0)) := by
      unfold oxP
      rw [c, if_neg (by decide), if_neg (by decide), if_neg (by decide), if_neg (by decide), if_pos rfl]
      rfl
    unfold oxP at et
    rw [et]
    unfold opPut
    try dsimp only
    rcases elI_n (b := b) e1 e2 e3 (by omega) w with q | ⟨j, j1, q⟩
    · right
      rw [q]
      exact ⟨_, rfl⟩
    · left
      rw [q]
      refine ⟨V', upd M (b + a + j) y, rfl, hV', fun r hr => ?_, fun q => by rw [c] at q; exact absurd q (by decide)⟩
      rw [upd_at, if_neg (fun z => hr (Or.inl ⟨a + j, by omega, Or.inr (Or.inl ⟨c, by rw [e1, nI_clamp (by omega)]; omega, by rw [e1, e2, nI_clamp (by omega), nI_clamp (by omega)]; omega⟩)⟩))]
  · obtain ⟨y, w, V', rfl, hV'⟩ := two_l hV k
    have et : oxP b (bsF s.1) now x (y :: w :: V' ++ S0) M = opTwo x M (y :: w :: (V' ++ S0)) := by
      unfold oxP
      rw [c, if_neg (by decide), if_neg (by decide), if_neg (by decide), if_neg (by decide), if_neg (by decide), if_neg (by decide), if_neg (by decide), if_pos rfl]
      rfl
    unfold oxP at et
    rw [et]
    unfold opTwo
    try dsimp only
    rw [if_pos (i4 c)]
    by_cases q : divO x.2.1 ∧ y = 0
    · right
      rw [if_pos q]
      exact ⟨_, rfl⟩
    · left
      rw [if_neg q]
      exact ⟨two_ x.2.1 w y :: V', M, rfl, by rw [List.length_cons, hV']; show _ = h - 1; omega, fun _ _ => rfl, fun q => by rw [c] at q; exact absurd q (by decide)⟩
  · obtain ⟨y, w, v, V', rfl, hV'⟩ := three_l hV k
    left
    refine ⟨(if v = 0 then w else y) :: V', M, ?_, by rw [List.length_cons, hV']; show _ = h - 2; omega, fun _ _ => rfl, fun q => by rw [c] at q; exact absurd q (by decide)⟩
    rw [c, if_neg (by decide), if_neg (by decide), if_neg (by decide), if_neg (by decide), if_neg (by decide), if_neg (by decide), if_neg (by decide), if_neg (by decide), if_neg (by decide), if_pos rfl]
    rfl
  · exact absurd c ho.2.1
  · left
    obtain ⟨a, e1, e2⟩ := i1 (Or.inr (Or.inr (Or.inl c)))
    refine ⟨V, upd M (b + a) x.2.2.1, ?_, by rw [hV]; exact k, fun r hr => ?_, fun _ => by rw [e1, nI_clamp (by omega), upd_at, if_pos rfl]⟩
    · rw [c, if_neg (by decide), if_neg (by decide), if_neg (by decide), if_neg (by decide), if_neg (by decide), if_neg (by decide), if_neg (by decide), if_neg (by decide), if_neg (by decide), if_neg (by decide), if_pos rfl, e1, cel a e2]
    · rw [upd_at, if_neg (fun z => hr (Or.inl ⟨a, z, Or.inl ⟨Or.inr (Or.inl c), by rw [e1, nI_clamp (by omega)]⟩⟩))]
  · exact absurd (Or.inr c) ho.2.2.2.1
  · rcases c with c | c | c | c | c
    · exact absurd (Or.inl c) ho.1
    · exact absurd (Or.inr c) ho.1
    · exact absurd (Or.inl c) ho.2.2.2.1
    · left
      obtain ⟨q, a, e1, e2, e3, e4⟩ := i7 c
      refine ⟨V, bkF q now (b + a) M, ?_, by rw [hV]; exact k, fun r hr => ?_, fun z => by rw [c] at z; exact absurd z (by decide)⟩
      · rw [c, if_neg (by decide), if_neg (by decide), if_neg (by decide), if_neg (by decide), if_neg (by decide), if_neg (by decide), if_neg (by decide), if_neg (by decide), if_neg (by decide), if_neg (by decide), if_neg (by decide), if_pos rfl]
        unfold opBlk
        rw [e1, e3, nI_clamp (by omega), nI_clamp (by omega), if_pos ⟨nI_le (a := 0) (Nat.zero_le _) (by omega), e2, nI_le (a := 0) (Nat.zero_le _) (by omega), by omega⟩]
      · refine bkF_o _ _ _ _ ?_
        refine Classical.byContradiction (fun z => hr (Or.inl ⟨r - b, by omega, Or.inr (Or.inr (Or.inr ⟨c, ?_, ?_⟩))⟩))
        · rw [e3, nI_clamp (by omega)]; omega
        · rw [e1, e3, nI_clamp (by omega), nI_clamp (by omega)]; omega
    · exact absurd c ho.2.2.2.2
