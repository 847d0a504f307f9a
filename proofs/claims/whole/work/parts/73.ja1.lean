/-! THE REFERENCE'S RULES: what its memory holds of what is known -/
/-- the class's names, the reference's, the nodes, the reference's number of a node -/
abbrev JV : Type := List (List Int32) × List (List Int32) × List ND × (Nat → Nat)
def NM (J : JV) (x y : Int32) : Prop := ∃ j k, 41 ≤ j ∧ j < J.1.length ∧ k < J.2.1.length ∧ x = nI j ∧ y = nI k ∧ J.1.getD j [] = J.2.1.getD k [] ∧ nmc (J.1.getD j [])
def JN (J : JV) : Prop := KN <+: J.1 ∧ J.1.Nodup ∧ J.1.length ≤ 4172 ∧ J.2.1.Nodup ∧ J.2.1.length ≤ 8192
theorem NM.eq {J : JV} (h : JN J) {x y x' y' : Int32} (a : NM J x y) (b : NM J x' y') : x = x' ↔ y = y' := by
  obtain ⟨j, k, a0, a1, a2, rfl, rfl, a5, -⟩ := a
  obtain ⟨j', k', b0, b1, b2, rfl, rfl, b5, -⟩ := b
  obtain ⟨h1, h2, h3, h4, h5⟩ := h
  rw [nI_eq (by omega) (by omega), nI_eq (by omega) (by omega)]
  constructor
  · rintro rfl
    exact nodup_getD h4 a2 b2 (a5.symm.trans b5)
  · rintro rfl
    exact nodup_getD h2 a1 b1 (a5.trans b5.symm)
def NX (J : JV) (m : yM) (n : Nat) : Prop := J.2.2.2 n < 20000 ∧ m.1 62 (J.2.2.2 n) = nI (kK J.2.2.1 n) ∧ m.1 63 (J.2.2.2 n) = plF J.2.2.1 n ∧ (vtF J.2.2.1 n = 0 → m.1 64 (J.2.2.2 n) = vF J.2.2.1 n) ∧ (¬ vtF J.2.2.1 n = 0 → NM J (vF J.2.2.1 n) (m.1 64 (J.2.2.2 n))) ∧ m.1 66 (J.2.2.2 n) = lkI J.2.2.2 (kids J.2.2.1 n)[0]? ∧ m.1 67 (J.2.2.2 n) = lkI J.2.2.2 (kids J.2.2.1 n)[(kids J.2.2.1 n).length - 1]? ∧ m.1 69 (J.2.2.2 n) = nI (kids J.2.2.1 n).length ∧ ∀ (j c : Nat), (kids J.2.2.1 n)[j]? = some c → c < J.2.2.1.length ∧ m.1 65 (J.2.2.2 c) = nI (J.2.2.2 n) ∧ m.1 68 (J.2.2.2 c) = lkI J.2.2.2 (kids J.2.2.1 n)[j + 1]?
def JT (J : JV) (m : yM) : Prop := NR m J.2.1 ∧ (∀ n, n < J.2.2.1.length → NX J m n) ∧ (∀ n n', n < J.2.2.1.length → n' < J.2.2.1.length → J.2.2.2 n = J.2.2.2 n' → n = n') ∧ m.1 65 (J.2.2.2 0) = -1 ∧ m.1 68 (J.2.2.2 0) = -1 ∧ J.2.2.1.length ≤ 16400
theorem JT.fr {J : JV} {m m' : yM} (h : JT J m) (h1 : ∀ a i, 59 < a → a < 70 → m'.1 a i = m.1 a i) (h2 : m'.1 58 12 = m.1 58 12) : JT J m' := by
  obtain ⟨a, b, c, d, e, f⟩ := h
  refine ⟨?_, fun n hn => ?_, c, by rw [h1 65 _ (by omega) (by omega)]; exact d, by rw [h1 68 _ (by omega) (by omega)]; exact e, f⟩
  · obtain ⟨a1, a2, a3, a4⟩ := a
    refine ⟨h2.trans a1, fun i hi => by rw [h1 61 i (by omega) (by omega)]; exact a2 i hi, fun i hi => ?_, a4⟩
    refine Eq.trans ?_ (a3 i hi)
    unfold nrAt
    exact List.map_congr_left (fun x _ => h1 60 _ (by omega) (by omega))
  · obtain ⟨b1, b2, b3, b4, b5, b6, b7, b8, b9⟩ := b n hn
    unfold NX
    rw [h1 62 _ (by omega) (by omega), h1 63 _ (by omega) (by omega), h1 64 _ (by omega) (by omega), h1 66 _ (by omega) (by omega), h1 67 _ (by omega) (by omega), h1 69 _ (by omega) (by omega)]
    refine ⟨b1, b2, b3, b4, b5, b6, b7, b8, fun j c hc => ?_⟩
    rw [h1 65 _ (by omega) (by omega), h1 68 _ (by omega) (by omega)]
    exact b9 j c hc
theorem JT.i {J : JV} {m : yM} (h : JT J m) {n : Nat} (hn : n < J.2.2.1.length) : J.2.2.2 n < 20000 := (h.2.1 n hn).1
theorem JT.c {J : JV} {m : yM} (h : JT J m) {n : Nat} (hn : n < J.2.2.1.length) : (nI (J.2.2.2 n)).toNatClampNeg = J.2.2.2 n := nI_clamp (by have := h.i hn; omega)
theorem JT.x {J : JV} {m : yM} (h : JT J m) {n : Nat} (hn : n < J.2.2.1.length) : x_in (nI (J.2.2.2 n)) 20000 = true := x_in_nI (h.i hn) (by decide)
/-- a type of a variable -/
def btR (x y : Int32) : Prop := ∃ k : Nat, x = nI k ∧ k < 520 ∧ y = nI (if k < 9 then k else k + 91)
def tyR (σ : RS) (m : yM) (v t : Nat) : Prop := (σ.2.2.1 t = 8 ∧ m.1 76 v = 0 ∧ m.1 77 v = σ.2.2.2.1 t ∧ m.1 79 v = 1) ∨ (σ.2.2.1 t = 9 ∧ m.1 76 v = 1 ∧ m.1 77 v = σ.2.2.2.2 t ∧ m.1 78 v = σ.2.2.2.1 (t + 1) ∧ m.1 79 v = σ.2.2.2.1 t) ∨ (σ.2.2.1 t = 10 ∧ m.1 76 v = 2 ∧ m.1 79 v = 1 ∧ btR (σ.2.2.2.1 t) (m.1 77 v))
abbrev lwP (c : Int32) : Prop := ¬ c < 0 ∧ c < 960
theorem rd_lw {c : Int32} (h : rdP c) : lwP c := by
  rcases h with ⟨a, b⟩ | ⟨a, b⟩
  · have b := Int32.lt_iff_toInt_lt.mp b
    exact ⟨a, Int32.lt_iff_toInt_lt.mpr (Int.lt_trans b (by decide))⟩
  · have a : ¬ c.toInt < 768 := fun z => a (Int32.lt_iff_toInt_lt.mpr z)
    have b : ¬ 832 ≤ c.toInt := fun z => b (Int32.le_iff_toInt_le.mpr z)
    refine ⟨fun z => ?_, Int32.lt_iff_toInt_lt.mpr (show c.toInt < 960 by omega)⟩
    have z : c.toInt < 0 := Int32.lt_iff_toInt_lt.mp z
    omega
/-- where a variable is told to be -/
def atR (σ : RS) (m : yM) (v : Nat) (c : Int32) : Prop := (m.1 82 v = -1 ∧ (inB σ 3 → (curB σ).2.2.2.2 ≤ v → ¬ lwP c)) ∨ ∃ w k, w < 6 ∧ k < 256 ∧ (3 ≤ w → k < 64) ∧ m.1 82 v = nI (256 * w + k) ∧ c = nI (plC w k) ∧ inB σ 3
/-- a node that tells a type -/
def tnK (J : JV) (σ : RS) (t : Nat) : Prop := t < J.2.2.1.length ∧ (kK J.2.2.1 t = 8 ∨ kK J.2.2.1 t = 9 ∨ kK J.2.2.1 t = 10) ∧ σ.2.2.1 t = nI (kK J.2.2.1 t) ∧ (kK J.2.2.1 t = 9 → cnK (kK J.2.2.1 (t + 1)))
def vdR (J : JV) (σ : RS) (m : yM) (v : Nat) (y : Int32 × Nat × Int32 × Int32) : Prop := m.1 81 v = y.1 ∧ m.1 83 v = y.2.2.1 ∧ m.1 80 v = y.2.2.2 ∧ tnK J σ y.2.1 ∧ tyR σ m v y.2.1 ∧ atR σ m v y.2.2.2
def vuR (m : yM) (v : Nat) : Prop := m.1 76 v = -1 ∧ m.1 79 v = 1 ∧ m.1 82 v = -1 ∧ m.1 83 v = 0
def RB (J : JV) (σ : RS) (m : yM) : Prop := (m.1 58 3 = 0 ∧ σ.1.length ≤ 399 ∧ σ.2.1.length ≤ 4096 ∧ m.1 58 23 = nI σ.1.length ∧ m.1 58 30 = nI σ.2.1.length ∧ m.1 58 29 = if inB σ 3 then 1 else 0) ∧
  (∀ b x, σ.1[b]? = some x → x.2.1 < J.2.2.1.length ∧ m.1 70 b = nI (J.2.2.2 x.2.1) ∧ NM J x.2.2.1 (m.1 71 b) ∧ m.1 72 b = x.2.2.2.1 ∧ m.1 73 b = nI x.2.2.2.2 ∧ x.2.2.2.2 ≤ σ.2.1.length ∧ x.1 = nI (kK J.2.2.1 x.2.1)) ∧
  (∀ v x, σ.2.1[v]? = some x → NM J x.1 (m.1 75 v) ∧ (x.2 = none → vuR m v) ∧ ∀ y, x.2 = some y → vdR J σ m v y)
theorem RB.fr {J : JV} {σ : RS} {m m' : yM} (h : RB J σ m) (h1 : ∀ a i, 69 < a → a < 84 → m'.1 a i = m.1 a i) (h2 : ∀ i, i = 3 ∨ i = 23 ∨ i = 29 ∨ i = 30 → m'.1 58 i = m.1 58 i) : RB J σ m' := by
  obtain ⟨a, b, c⟩ := h
  refine ⟨?_, fun x y hx => ?_, fun v x hv => ?_⟩
  · rw [h2 3 (by omega), h2 23 (by omega), h2 30 (by omega), h2 29 (by omega)]; exact a
  · rw [h1 70 _ (by omega) (by omega), h1 71 _ (by omega) (by omega), h1 72 _ (by omega) (by omega), h1 73 _ (by omega) (by omega)]; exact b x y hx
  · obtain ⟨c1, c2, c3⟩ := c v x hv
    refine ⟨by rw [h1 75 _ (by omega) (by omega)]; exact c1, fun e => ?_, fun y e => ?_⟩
    · unfold vuR
      rw [h1 76 _ (by omega) (by omega), h1 79 _ (by omega) (by omega), h1 82 _ (by omega) (by omega), h1 83 _ (by omega) (by omega)]
      exact c2 e
    · unfold vdR tyR atR
      rw [h1 76 _ (by omega) (by omega), h1 77 _ (by omega) (by omega), h1 78 _ (by omega) (by omega), h1 79 _ (by omega) (by omega), h1 80 _ (by omega) (by omega), h1 81 _ (by omega) (by omega), h1 82 _ (by omega) (by omega), h1 83 _ (by omega) (by omega)]
      exact c3 y e
/-- a function, by its number -/
def fnR (x y : Int32) : Prop := ∃ k : Nat, x = nI k ∧ k < 520 ∧ y = nI (if k < 10 then k else k + 90)
/-- what the reference knows of a node that was looked at -/
def nvR (J : JV) (σ : RS) (m : yM) (i : Nat) : Prop := (exK (kK J.2.2.1 i) → m.1 84 (J.2.2.2 i) = σ.2.2.2.2 i ∧ m.1 87 (J.2.2.2 i) = (if cnP σ i then 1 else 0) ∧ (cnP σ i → m.1 88 (J.2.2.2 i) = σ.2.2.2.1 i)) ∧ (kK J.2.2.1 i = 6 ∨ kK J.2.2.1 i = 32 ∨ kK J.2.2.1 i = 13 ∨ kK J.2.2.1 i = 19 → m.1 85 (J.2.2.2 i) = σ.2.2.2.1 i) ∧ (kK J.2.2.1 i = 33 ∨ kK J.2.2.1 i = 14 → m.1 86 (J.2.2.2 i) = σ.2.2.2.1 i) ∧ (kK J.2.2.1 i = 34 → ¬ cnP σ i → fnR (σ.2.2.2.1 i) (m.1 85 (J.2.2.2 i)))
def RJ (J : JV) (D : Nat → Prop) (σ : RS) (m : yM) : Prop := JT J m ∧ RB J σ m ∧ ∀ i, D i → i < J.2.2.1.length ∧ nvR J σ m i
/-- what the rules of the reference leave alone -/
def JK (m m' : yM) : Prop := (∀ a i, a ≠ 58 → a < 70 ∨ a = 74 ∨ a = 81 ∨ a = 86 ∨ 88 < a → m'.1 a i = m.1 a i) ∧ (∀ i, ¬ (i = 3 ∨ i = 4 ∨ i = 23 ∨ i = 29 ∨ i = 30) → m'.1 58 i = m.1 58 i) ∧ m'.2 = m.2
theorem JK.re (m : yM) : JK m m := ⟨fun _ _ _ _ => rfl, fun _ _ => rfl, rfl⟩
theorem JK.tr {m m1 m2 : yM} (h : JK m m1) (h2 : JK m1 m2) : JK m m2 := ⟨fun a i x y => by rw [h2.1 a i x y, h.1 a i x y], fun i x => by rw [h2.2.1 i x, h.2.1 i x], h2.2.2.trans h.2.2⟩
theorem JK.si {m m' : yM} (h : JK m m') {k i : Nat} {v : Int32} (hk : (69 < k ∧ k < 89 ∧ k ≠ 74 ∧ k ≠ 81 ∧ k ≠ 86) ∨ (k = 58 ∧ (i = 3 ∨ i = 4 ∨ i = 23 ∨ i = 29 ∨ i = 30))) : JK m (y_si m' k i v) := ⟨fun a b x y => by rw [y_si_at, if_neg (by omega)]; exact h.1 a b x y, fun b x => by rw [y_si_at, if_neg (by omega)]; exact h.2.1 b x, h.2.2⟩
theorem JT.k {J : JV} {m m' : yM} (h : JT J m) (k : JK m m') : JT J m' := h.fr (fun a i x y => k.1 a i (by omega) (by omega)) (k.2.1 12 (by omega))
/-- what names leave alone -/
def JW (m m' : yM) : Prop := (∀ a i, a ≠ 58 → a < 70 ∨ a = 74 ∨ a = 86 ∨ 88 < a → m'.1 a i = m.1 a i) ∧ (∀ i, ¬ (i = 3 ∨ i = 4 ∨ i = 23 ∨ i = 29 ∨ i = 30) → m'.1 58 i = m.1 58 i) ∧ m'.2 = m.2
theorem JW.re (m : yM) : JW m m := ⟨fun _ _ _ _ => rfl, fun _ _ => rfl, rfl⟩
theorem JW.tr {m m1 m2 : yM} (h : JW m m1) (h2 : JW m1 m2) : JW m m2 := ⟨fun a i x y => by rw [h2.1 a i x y, h.1 a i x y], fun i x => by rw [h2.2.1 i x, h.2.1 i x], h2.2.2.trans h.2.2⟩
theorem JW.si {m m' : yM} (h : JW m m') {k i : Nat} {v : Int32} (hk : (69 < k ∧ k < 89 ∧ k ≠ 74 ∧ k ≠ 86) ∨ (k = 58 ∧ (i = 3 ∨ i = 4 ∨ i = 23 ∨ i = 29 ∨ i = 30))) : JW m (y_si m' k i v) := ⟨fun a b x y => by rw [y_si_at, if_neg (by omega)]; exact h.1 a b x y, fun b x => by rw [y_si_at, if_neg (by omega)]; exact h.2.1 b x, h.2.2⟩
theorem JT.kw {J : JV} {m m' : yM} (h : JT J m) (k : JW m m') : JT J m' := h.fr (fun a i x y => k.1 a i (by omega) (by omega)) (k.2.1 12 (by omega))
theorem JK.w {m m' : yM} (h : JK m m') : JW m m' := ⟨fun a i x y => h.1 a i x (by omega), h.2⟩
/-- what a port at p leaves alone -/
def JP (p : Nat) (m m' : yM) : Prop := (∀ a i, a ≠ 58 → a < 70 ∨ a = 74 ∨ a = 81 ∨ (a = 86 ∧ i ≠ p) ∨ 88 < a → m'.1 a i = m.1 a i) ∧ (∀ i, ¬ (i = 3 ∨ i = 4 ∨ i = 23 ∨ i = 29 ∨ i = 30) → m'.1 58 i = m.1 58 i) ∧ m'.2 = m.2
theorem JP.re (p : Nat) (m : yM) : JP p m m := ⟨fun _ _ _ _ => rfl, fun _ _ => rfl, rfl⟩
theorem JP.tr {p : Nat} {m m1 m2 : yM} (h : JP p m m1) (h2 : JP p m1 m2) : JP p m m2 := ⟨fun a i x y => by rw [h2.1 a i x y, h.1 a i x y], fun i x => by rw [h2.2.1 i x, h.2.1 i x], h2.2.2.trans h.2.2⟩
theorem JP.si {p : Nat} {m m' : yM} (h : JP p m m') {k i : Nat} {v : Int32} (hk : (69 < k ∧ k < 89 ∧ k ≠ 74 ∧ k ≠ 81 ∧ (k = 86 → i = p)) ∨ (k = 58 ∧ (i = 3 ∨ i = 4 ∨ i = 23 ∨ i = 29 ∨ i = 30))) : JP p m (y_si m' k i v) := ⟨fun a b x y => by rw [y_si_at, if_neg (by omega)]; exact h.1 a b x y, fun b x => by rw [y_si_at, if_neg (by omega)]; exact h.2.1 b x, h.2.2⟩
theorem JT.kp {J : JV} {p : Nat} {m m' : yM} (h : JT J m) (k : JP p m m') : JT J m' := h.fr (fun a i x y => k.1 a i (by omega) (by omega)) (k.2.1 12 (by omega))
theorem JK.p {m m' : yM} (h : JK m m') (p : Nat) : JP p m m' := ⟨fun a i x y => h.1 a i x (by omega), h.2⟩
/-- a fault is told of node n -/
def FE (J : JV) (c : Int32) (n : Nat) (m : yM) : Prop := m.1 58 3 = c ∧ 0 < c ∧ m.1 58 4 = plF J.2.2.1 n
def JQ (J : JV) (D : Nat → Prop) (m0 : yM) (n : Nat) (R : RS ⊕ Int32) (r : Option Value) (m' : yM) : Prop := r = none ∧ JK m0 m' ∧ match R with
  | .inr c => FE J c n m'
  | .inl σ' => RJ J D σ' m'
def JQw (J : JV) (D : Nat → Prop) (m0 : yM) (n : Nat) (R : RS ⊕ Int32) (r : Option Value) (m' : yM) : Prop := r = none ∧ JW m0 m' ∧ match R with
  | .inr c => FE J c n m'
  | .inl σ' => RJ J D σ' m'
def JQp (J : JV) (D : Nat → Prop) (m0 : yM) (n : Nat) (R : RS ⊕ Int32) (r : Option Value) (m' : yM) : Prop := r = none ∧ JP (J.2.2.2 n) m0 m' ∧ match R with
  | .inr c => FE J c n m'
  | .inl σ' => RJ J D σ' m'
def flM2 (J : JV) (m : yM) (c : Int32) (n : Nat) : yM := y_si (y_si m 58 3 c) 58 4 (plF J.2.2.1 n)
theorem FE.mk (J : JV) (m : yM) {c : Int32} (hc : 0 < c) (n : Nat) : FE J c n (flM2 J m c n) := ⟨by unfold flM2; rw [y_si_at, if_neg (by omega), y_si_same], hc, by unfold flM2; rw [y_si_same]⟩
theorem JK.fl {m m' : yM} (J : JV) (h : JK m m') (c : Int32) (n : Nat) : JK m (flM2 J m' c n) := (h.si (by omega)).si (by omega)
theorem JW.fl {m m' : yM} (J : JV) (h : JW m m') (c : Int32) (n : Nat) : JW m (flM2 J m' c n) := (h.si (by omega)).si (by omega)
theorem JP.fl {p : Nat} {m m' : yM} (J : JV) (h : JP p m m') (c : Int32) (n : Nat) : JP p m (flM2 J m' c n) := (h.si (by omega)).si (by omega)
/-- rule: nothing, the first fault, or one more -/
theorem rl0 {xs : List Int32} {D : Nat} {m : yM} {f k : Int32} {K : yM → Prop} (h : K m) : yC (xg xs) D 323 [.ref 58, .int f, .int (0 : Int32), .int k] m (fun r m' => r = none ∧ K m') := y_cv (c323a xs D m f k) (Nat.le_refl _) h
theorem rl1 {xs : List Int32} {D : Nat} (hD : 1 ≤ D) {J : JV} {m : yM} {f : Int32} {n : Nat} {K : yM → Prop} (hT : JT J m) (hn : n < J.2.2.1.length) (h3 : m.1 58 3 = 0) (h : K (flM2 J m f n)) : yC (xg xs) D 323 [.ref 58, .int f, .int (1 : Int32), .int (nI (J.2.2.2 n))] m (fun r m' => r = none ∧ K m') := by
  obtain ⟨E, rfl⟩ : ∃ E, D = E + 1 := ⟨D - 1, by omega⟩
  have nx := hT.2.1 n hn
  refine y_cv (c323b xs E m f (J.2.2.2 n) nx.1) (Nat.le_refl _) ?_
  rw [if_pos h3, nx.2.2.1]
  exact h
theorem rl2 {xs : List Int32} {D : Nat} (hD : 1 ≤ D) {m : yM} {f u : Int32} {a : Nat} {K : yM → Prop} (ha : a < 20000) (hu : u = 0 ∨ u = 1) (h3 : ¬ m.1 58 3 = 0) (h : K m) : yC (xg xs) D 323 [.ref 58, .int f, .int u, .int (nI a)] m (fun r m' => r = none ∧ K m') := by
  rcases hu with rfl | rfl
  · exact rl0 h
  · obtain ⟨E, rfl⟩ : ∃ E, D = E + 1 := ⟨D - 1, by omega⟩
    refine y_cv (c323b xs E m f a ha) (Nat.le_refl _) ?_
    rw [if_neg h3]
    exact h
theorem FE.ne {J : JV} {c : Int32} {n : Nat} {m : yM} (h : FE J c n m) : ¬ m.1 58 3 = 0 := by
  rw [h.1]
  exact fun e => absurd h.2.1 (by rw [e]; decide)
theorem FE.nle {J : JV} {c : Int32} {n : Nat} {m : yM} (h : FE J c n m) : ¬ m.1 58 3 ≤ 0 := by
  rw [h.1]
  exact Int32.not_le.mpr h.2.1
/-! small reads -/
theorem RB.nB {J : JV} {σ : RS} {m : yM} (h : RB J σ m) : m.1 58 23 = nI σ.1.length ∧ σ.1.length ≤ 399 := ⟨h.1.2.2.2.1, h.1.2.1⟩
theorem RB.nV {J : JV} {σ : RS} {m : yM} (h : RB J σ m) : m.1 58 30 = nI σ.2.1.length ∧ σ.2.1.length ≤ 4096 := ⟨h.1.2.2.2.2.1, h.1.2.2.1⟩
theorem RB.b {J : JV} {σ : RS} {m : yM} (h : RB J σ m) {b : Nat} (hb : b < σ.1.length) : (σ.1.getD b dBK).2.1 < J.2.2.1.length ∧ m.1 70 b = nI (J.2.2.2 (σ.1.getD b dBK).2.1) ∧ NM J (σ.1.getD b dBK).2.2.1 (m.1 71 b) ∧ m.1 72 b = (σ.1.getD b dBK).2.2.2.1 ∧ m.1 73 b = nI (σ.1.getD b dBK).2.2.2.2 ∧ (σ.1.getD b dBK).2.2.2.2 ≤ σ.2.1.length ∧ (σ.1.getD b dBK).1 = nI (kK J.2.2.1 (σ.1.getD b dBK).2.1) := h.2.1 b _ (getD_some hb)
theorem RB.v {J : JV} {σ : RS} {m : yM} (h : RB J σ m) {v : Nat} (hv : v < σ.2.1.length) : NM J (σ.2.1.getD v dVK).1 (m.1 75 v) := (h.2.2 v _ (getD_some hv)).1
theorem RB.d {J : JV} {σ : RS} {m : yM} (h : RB J σ m) {v : Nat} (hv : vOk σ v) : v < σ.2.1.length ∧ vdR J σ m v (vD σ v) := by
  obtain ⟨nm, y, e⟩ := hv
  have lt : v < σ.2.1.length := (List.getElem?_eq_some_iff.mp e).1
  have e1 : σ.2.1.getD v dVK = (nm, some y) := by rw [List.getD_eq_getElem?_getD, e]; rfl
  have e2 : vD σ v = y := by unfold vD; rw [e1]; rfl
  rw [e2]
  exact ⟨lt, (h.2.2 v _ e).2.2 y rfl⟩
theorem nI_m {k : Nat} (h : 0 < k) : nI k - 1 = nI (k - 1) := by
  obtain ⟨j, rfl⟩ : ∃ j, k = j + 1 := ⟨k - 1, by omega⟩
  rw [nI_pred]
  rfl
theorem c331 (xs : List Int32) (d : Nat) {J : JV} {σ : RS} {m : yM} (hT : JT J m) (h : RB J σ m) (h0 : 0 < σ.1.length) : yC (xg xs) (d + 1) 331 [.ref 58] m (fun r m' => r = some (.int (curB σ).1) ∧ m' = m) := by
  obtain ⟨n1, n2⟩ := h.nB
  have hb := h.b (show σ.1.length - 1 < σ.1.length by omega)
  have nx := hT.2.1 _ hb.1
  refine w331_0 xs d m _ ?_
  rw [n1, nI_m h0, nI_clamp (by omega), hb.2.1, hT.c hb.1, nx.2.1]
  refine ⟨x_in_nI (by omega) (by decide), x_in_nI nx.1 (by decide), ?_, rfl⟩
  rw [← hb.2.2.2.2.2.2]
  rfl
/-- the first variable so named from v on -/
def fsV (σ : RS) (x : Int32) : Nat → Nat → Int32
  | 0 => fun _ => -1
  | k + 1 => fun v => if (σ.2.1.getD v dVK).1 = x then nI v else fsV σ x k (v + 1)
theorem RB.e {J : JV} {σ : RS} {m : yM} (h : RB J σ m) (b : Nat) : endV σ b ≤ σ.2.1.length := by
  unfold endV
  split
  · rename_i z
    exact (h.b z).2.2.2.2.2.1
  · exact Nat.le_refl _
theorem c338 (xs : List Int32) (d : Nat) {J : JV} (hN : JN J) {σ : RS} {m : yM} (h : RB J σ m) {b : Nat} (hb : b < σ.1.length) {x y : Int32} (hx : NM J x y) : yC (xg xs) (d + 1) 338 [.ref 58, .int (nI b), .int y] m (fun r m' => r = some (.int (fsV σ x (endV σ b - (σ.1.getD b dBK).2.2.2.2) (σ.1.getD b dBK).2.2.2.2)) ∧ m' = m) := by
  obtain ⟨n1, n2⟩ := h.nB
  obtain ⟨v1, v2⟩ := h.nV
  have el := h.e b
  have lp : ∀ (k v : Nat), endV σ b - v = k → yP (xg xs) (d + 1) 338 34 [(0, .ref 58), (2, .int y), (3, .int (nI (endV σ b))), (4, .int (nI v))] [] m (fun r m' => r = some (.int (fsV σ x k v)) ∧ m' = m) ∨ ¬ v ≤ 5000 := by
    intro k
    induction k with
    | zero =>
      intro v hk
      by_cases q : v ≤ 5000
      · left
        exact w338_34 xs d _ _ _ m _ ⟨fun _ => ⟨rfl, rfl⟩, fun u => absurd (nI_le (by omega) (by omega)) u⟩
      · exact Or.inr q
    | succ k ih =>
      intro v hk
      left
      have hv := h.v (show v < σ.2.1.length by omega)
      refine w338_34 xs d _ _ _ m _ ⟨fun u => absurd ((nI_leI (by omega) (by omega)).mp u) (by omega), fun _ => ⟨x_in_nI (by omega) (by decide), ?_⟩⟩
      rw [nI_clamp (by omega), nI_1]
      have eq := NM.eq hN hv hx
      have es : fsV σ x (k + 1) v = if (σ.2.1.getD v dVK).1 = x then nI v else fsV σ x k (v + 1) := rfl
      refine ⟨fun u => ?_, fun u => ⟨?_, rfl⟩⟩
      · rw [es, if_neg (fun z => u (eq.mp z))]
        exact (ih (v + 1) (by omega)).resolve_right (fun z => z (by omega))
      · rw [es, if_pos (eq.mpr u)]
  have hf := (h.b hb).2.2.2.2
  have s25 : yP (xg xs) (d + 1) 338 25 [(0, .ref 58), (1, .int (nI b)), (2, .int y)] [.int (nI (endV σ b))] m (fun r m' => r = some (.int (fsV σ x (endV σ b - (σ.1.getD b dBK).2.2.2.2) (σ.1.getD b dBK).2.2.2.2)) ∧ m' = m) := by
    refine w338_25 xs d _ _ _ m _ ⟨x_in_nI (by omega) (by decide), ?_⟩
    rw [nI_clamp (by omega), hf.1]
    exact (lp _ _ rfl).resolve_right (fun z => z (by omega))
  refine w338_0 xs d _ _ m _ ⟨fun u => ⟨?_, ?_⟩, fun u => ?_⟩
  · rw [nI_1]; exact x_in_nI (by omega) (by decide)
  · have lt : b + 1 < σ.1.length := by
      rcases Nat.lt_or_ge (b + 1) σ.1.length with q | q
      · exact q
      · refine absurd ?_ u
        rw [n1, nI_m (by omega), show σ.1.length - 1 = b by omega]
    rw [nI_1, nI_clamp (by omega), (h.b lt).2.2.2.2.1]
    unfold endV at s25
    rw [if_pos lt] at s25
    unfold endV
    rw [if_pos lt]
    exact s25
  · have lt : ¬ b + 1 < σ.1.length := by
      rw [n1, nI_m (by omega)] at u
      have := (nI_eq (by omega) (by omega)).mp u
      omega
    rw [v1]
    unfold endV at s25
    rw [if_neg lt] at s25
    unfold endV
    rw [if_neg lt]
    exact s25
/-- names differ within the block -/
def dsB (σ : RS) : Prop := ∀ v w, (curB σ).2.2.2.2 ≤ v → v < σ.2.1.length → (curB σ).2.2.2.2 ≤ w → w < σ.2.1.length → (σ.2.1.getD v dVK).1 = (σ.2.1.getD w dVK).1 → v = w
theorem lix_n {V : List VK} {nm : Int32} : ∀ n, (∀ v, v < n → ¬ (V.getD v dVK).1 = nm) → lix V nm n = -1
  | 0, _ => rfl
  | n + 1, h => by rw [lix_s, if_neg (h n (by omega)), lix_n n (fun v hv => h v (by omega))]
theorem lix_v (V : List VK) (nm : Int32) : ∀ n v, v < n → (V.getD v dVK).1 = nm → ∃ z, lix V nm n = nI z ∧ v ≤ z ∧ z < n
  | 0, v, h, _ => by omega
  | n + 1, v, h, e => by
    rw [lix_s]
    by_cases q : (V.getD n dVK).1 = nm
    · rw [if_pos q]; exact ⟨n, rfl, by omega, by omega⟩
    · rw [if_neg q]
      have ne : v ≠ n := fun y => q (y ▸ e)
      obtain ⟨z, z1, z2, z3⟩ := lix_v V nm n v (by omega) e
      exact ⟨z, z1, z2, by omega⟩
theorem fsV_lix {σ : RS} (hd : dsB σ) (h4 : σ.2.1.length ≤ 4096) (x : Int32) : ∀ k v, v + k = σ.2.1.length → (curB σ).2.2.2.2 ≤ v → (∀ w, (curB σ).2.2.2.2 ≤ w → w < v → ¬ (σ.2.1.getD w dVK).1 = x) → fsV σ x k v = fVar σ x
  | 0, v, hk, hv, hw => by
    show (-1 : Int32) = _
    unfold fVar
    rcases lix_c σ.2.1 x σ.2.1.length with e | ⟨u, u1, u2, u3⟩
    · rw [e]; split <;> rfl
    · rw [u2]
      rw [if_pos]
      refine nI_lt ?_ (by omega)
      rcases Nat.lt_or_ge u (curB σ).2.2.2.2 with q | q
      · exact q
      · exact absurd u3 (hw u q (by omega))
  | k + 1, v, hk, hv, hw => by
    have es : fsV σ x (k + 1) v = if (σ.2.1.getD v dVK).1 = x then nI v else fsV σ x k (v + 1) := rfl
    rw [es]
    by_cases e : (σ.2.1.getD v dVK).1 = x
    · rw [if_pos e]
      unfold fVar
      rcases lix_c σ.2.1 x σ.2.1.length with q | ⟨u, u1, u2, u3⟩
      · exfalso
        obtain ⟨z, z1, z2, z3⟩ := lix_v σ.2.1 x σ.2.1.length v (by omega) e
        rw [q] at z1
        exact nI_m1 (by omega) z1.symm
      · have uv : v ≤ u := by
          obtain ⟨z, z1, z2, z3⟩ := lix_v σ.2.1 x σ.2.1.length v (by omega) e
          rw [u2] at z1
          have := (nI_eq (a := u) (b := z) (by omega) (by omega)).mp z1
          omega
        have : u = v := hd u v (by omega) u1 hv (by omega) (u3.trans e.symm)
        subst this
        rw [u2, if_neg]
        exact fun q => absurd ((nI_ltI (by omega) (by omega)).mp q) (by omega)
    · rw [if_neg e]
      exact fsV_lix hd h4 x k (v + 1) (by omega) (by omega) (fun w w1 w2 => by
        by_cases q : w = v
        · rw [q]; exact e
        · exact hw w w1 (by omega))
theorem c337 (xs : List Int32) (d : Nat) {J : JV} (hN : JN J) {σ : RS} {m : yM} (h : RB J σ m) (h0 : 0 < σ.1.length) (hd : dsB σ) {x y : Int32} (hx : NM J x y) : yC (xg xs) (d + 2) 337 [.ref 58, .int y] m (fun r m' => r = some (.int (fVar σ x)) ∧ m' = m) := by
  have hb := h.b (show σ.1.length - 1 < σ.1.length by omega)
  refine w337_0 xs (d + 1) _ m _ ?_
  rw [h.nB.1, nI_m h0]
  refine y_ci (c338 xs d hN h (by omega) hx) (by omega) ⟨?_, rfl⟩
  have ee : endV σ (σ.1.length - 1) = σ.2.1.length := by unfold endV; rw [if_neg (by omega)]
  have eq := fsV_lix hd h.nV.2 x (σ.2.1.length - (curB σ).2.2.2.2) (curB σ).2.2.2.2 (by have := hb.2.2.2.2.2.1; unfold curB; omega) (Nat.le_refl _) (fun w w1 w2 => by omega)
  rw [ee, ← eq]
  rfl
/-- the first block before so named, of that kind -/
def bfB (σ : RS) (k x : Int32) : Nat → Nat → Int32
  | 0 => fun _ => -1
  | q + 1 => fun b => if (σ.1.getD b dBK).2.2.1 = x ∧ (σ.1.getD b dBK).1 = k then nI b else bfB σ k x q (b + 1)
theorem c333 (xs : List Int32) (d : Nat) {J : JV} (hN : JN J) {σ : RS} {m : yM} (hT : JT J m) (h : RB J σ m) (h0 : 0 < σ.1.length) (k : Int32) {x y : Int32} (hx : NM J x y) : yC (xg xs) (d + 1) 333 [.ref 58, .int k, .int y] m (fun r m' => r = some (.int (bfB σ k x (σ.1.length - 1) 0)) ∧ m' = m) := by
  obtain ⟨n1, n2⟩ := h.nB
  have lp : ∀ (q b : Nat), b + q = σ.1.length - 1 → yP (xg xs) (d + 1) 333 2 [(0, .ref 58), (1, .int k), (2, .int y), (3, .int (nI b))] [] m (fun r m' => r = some (.int (bfB σ k x q b)) ∧ m' = m) := by
    intro q
    induction q with
    | zero =>
      intro b hb
      refine w333_2 xs d _ _ _ m _ ⟨fun _ => ⟨rfl, rfl⟩, fun u => absurd ?_ u⟩
      rw [n1, nI_m h0]
      exact nI_le (by omega) (by omega)
    | succ q ih =>
      intro b hb
      have bb := h.b (show b < σ.1.length by omega)
      have nx := hT.2.1 _ bb.1
      have es : bfB σ k x (q + 1) b = if (σ.1.getD b dBK).2.2.1 = x ∧ (σ.1.getD b dBK).1 = k then nI b else bfB σ k x q (b + 1) := rfl
      have eq := NM.eq hN bb.2.2.1 hx
      have nx' : yP (xg xs) (d + 1) 333 39 [(0, .ref 58), (1, .int k), (2, .int y), (3, .int (nI b))] [] m (fun r m' => r = some (.int (bfB σ k x q (b + 1))) ∧ m' = m) := by
        refine w333_39 xs d _ _ _ m _ ?_
        rw [nI_1]
        exact ih (b + 1) (by omega)
      refine w333_2 xs d _ _ _ m _ ⟨fun u => ?_, fun _ => ⟨x_in_nI (by omega) (by decide), ?_⟩⟩
      · rw [n1, nI_m h0] at u
        exact absurd ((nI_leI (by omega) (by omega)).mp u) (by omega)
      · rw [nI_clamp (by omega), es]
        refine ⟨fun u => ?_, fun u => ⟨x_in_nI (by omega) (by decide), ?_, ?_⟩⟩
        · rw [if_neg (fun z => u (eq.mp z.1))]; exact nx'
        · rw [bb.2.1]; exact x_in_nI nx.1 (by decide)
        · rw [bb.2.1, hT.c bb.1, nx.2.1, ← bb.2.2.2.2.2.2]
          refine ⟨fun w => ?_, fun w => ⟨?_, rfl⟩⟩
          · rw [if_neg (fun z => w z.2)]; exact nx'
          · rw [if_pos ⟨eq.mpr u, w⟩]
  exact w333_0 xs d _ _ m _ (lp _ 0 (by omega))
