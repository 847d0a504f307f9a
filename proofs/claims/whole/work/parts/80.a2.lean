/-! MEASURE: all units, as the reference finds it -/
def KMr (m m' : yM) : Prop := (∀ a i, ¬ a = 58 → ¬ a = 96 → m'.1 a i = m.1 a i) ∧ (∀ i, ¬ i = 3 → ¬ i = 4 → m'.1 58 i = m.1 58 i) ∧ ∀ a, ¬ a = 58 → ¬ a = 94 → ¬ a = 97 → m'.2 a = m.2 a
theorem KMr.re (m : yM) : KMr m m := ⟨fun _ _ _ _ => rfl, fun _ _ _ => rfl, fun _ _ _ _ => rfl⟩
theorem KMr.tr {m m1 m2 : yM} (h : KMr m m1) (h2 : KMr m1 m2) : KMr m m2 := ⟨fun a i x y => (h2.1 a i x y).trans (h.1 a i x y), fun i x y => (h2.2.1 i x y).trans (h.2.1 i x y), fun a x y z => (h2.2.2 a x y z).trans (h.2.2 a x y z)⟩
theorem KMr.f (m : yM) (c p : Int32) : KMr m (y_si (y_si m 58 3 c) 58 4 p) := ⟨fun a i x _ => by rw [y_si_at, if_neg (fun z => x z.1), y_si_at, if_neg (fun z => x z.1)], fun i x y => by rw [y_si_at, if_neg (fun z => y z.2), y_si_at, if_neg (fun z => x z.2)], fun _ _ _ _ => rfl⟩
theorem RD.kmr {D : List IT} {S b : Nat} {m m' : yM} (h : RD D S b m) (k : KMr m m') : RD D S b m' := by
  obtain ⟨h1, h2, h3, h4, h5⟩ := h
  refine ⟨h1, h2, by rw [k.1 93 _ (by omega) (by omega)]; exact h3, by rw [k.1 93 _ (by omega) (by omega)]; exact h4, fun i x hx => ?_⟩
  rw [k.1 89 _ (by omega) (by omega), k.1 90 _ (by omega) (by omega), k.1 91 _ (by omega) (by omega)]
  exact h5 i x hx
theorem c387 (xs : List Int32) (d : Nat) {D : List IT} {S b U : Nat} {B : Nat → Int} {m : yM} (h : RD D S b m) (hf : FW D.length D 0) (h0 : mk0 D) (hop : iOps D) (hU : U ≤ 16) (hBb : ∀ x, x < U → -1 ≤ B x ∧ B x ≤ 1000000000) (hB : ∀ x, x < U → (m.2 94 x).toInt = B x) (hl : LPz D U 60 none 0 D.length) (h3 : m.1 58 3 = 0) {n : Nat} (hn : n < 20000) (h70 : m.1 70 b = nI n) : yC (xg xs) (d + 64) 387 [.ref 58, .int (nI b)] m (fun r m' => r = none ∧ KMr m m' ∧ (∀ x, ¬ x = b → m'.2 94 x = m.2 94 x) ∧ (okS D → bdV (bdO D B) ≤ 1000000000 → m'.1 58 3 = 0 ∧ (m'.2 94 b).toInt = bdV (bdO D B) ∧ -1 ≤ bdV (bdO D B)) ∧ (okS D → ¬ bdV (bdO D B) ≤ 1000000000 → m'.1 58 3 = 52 ∧ m'.1 58 4 = m.1 63 n) ∧ (¬ okS D → m'.1 58 3 = 51 ∧ m'.1 58 4 = m.1 63 n)) := by
  have hS := h.1
  have hb := h.2.1
  have cb : (nI b).toNatClampNeg = b := nI_clamp (by omega)
  have xb : x_in (nI b) 400 = true := x_in_nI (by omega) (by decide)
  have xb1 : x_in (nI b) 401 = true := x_in_nI (by omega) (by decide)
  have xb2 : x_in (nI b + 1) 401 = true := by rw [nI_1]; exact x_in_nI (by omega) (by decide)
  have cb1 : (nI b + 1).toNatClampNeg = b + 1 := by rw [nI_1]; exact nI_clamp (by omega)
  refine w387_0 xs (d + 63) _ m _ (yC.mono (by omega) (fun r m1 q => ?_) (c388 xs d h hf h0 hop))
  obtain ⟨⟨u, rfl, hu⟩, k1⟩ := q
  have km1 : KMr m m1 := ⟨fun a i _ y => k1.1 a i y, fun i _ _ => k1.1 58 i (by omega), fun a _ _ _ => by rw [k1.2]⟩
  have e70 : m1.1 70 b = nI n := by rw [k1.1 70 _ (by omega)]; exact h70
  have e63 : m1.1 63 n = m.1 63 n := k1.1 63 _ (by omega)
  have e3 : m1.1 58 3 = 0 := by rw [k1.1 58 _ (by omega)]; exact h3
  have hd1 := h.kmr km1
  -- behind the stack's rule
  have s2 : ∀ (m2 : yM), KMr m m2 → m2.2 = m.2 → (okS D → m2.1 58 3 = 0) → (¬ okS D → m2.1 58 3 = 51 ∧ m2.1 58 4 = m.1 63 n) → yC (xg xs) (d + 63) 390 [.ref 58, .int (nI b), .int (0 : Int32), .int (m2.1 93 (b + 1) - m2.1 93 b)] m2 (fun v2 m2 => v2 = none ∧ (yC (xg xs) (d + 63) 392 [.long (m2.2 58 58), .long (m2.2 58 60)] m2 (fun v3 m3 => ∃ u3, v3 = some (Value.long u3) ∧ (x_in (nI b) 400 = true ∧ (x_in (nI b) 400 = true ∧ (((lg_cmp ((y_sl m3 94 b u3).2 94 b) (1000000000 : Int64)) ≤ 0 → yP (xg xs) (d + 64) 387 86 [(0, .ref 58), (1, .int (nI b))] [.int (0 : Int32), .int (52 : Int32), .ref 58] (y_sl m3 94 b u3) (fun r m' => r = none ∧ KMr m m' ∧ (∀ x, ¬ x = b → m'.2 94 x = m.2 94 x) ∧ (okS D → bdV (bdO D B) ≤ 1000000000 → m'.1 58 3 = 0 ∧ (m'.2 94 b).toInt = bdV (bdO D B) ∧ -1 ≤ bdV (bdO D B)) ∧ (okS D → ¬ bdV (bdO D B) ≤ 1000000000 → m'.1 58 3 = 52 ∧ m'.1 58 4 = m.1 63 n) ∧ (¬ okS D → m'.1 58 3 = 51 ∧ m'.1 58 4 = m.1 63 n))) ∧ (¬ (lg_cmp ((y_sl m3 94 b u3).2 94 b) (1000000000 : Int64)) ≤ 0 → yP (xg xs) (d + 64) 387 86 [(0, .ref 58), (1, .int (nI b))] [.int (1 : Int32), .int (52 : Int32), .ref 58] (y_sl m3 94 b u3) (fun r m' => r = none ∧ KMr m m' ∧ (∀ x, ¬ x = b → m'.2 94 x = m.2 94 x) ∧ (okS D → bdV (bdO D B) ≤ 1000000000 → m'.1 58 3 = 0 ∧ (m'.2 94 b).toInt = bdV (bdO D B) ∧ -1 ≤ bdV (bdO D B)) ∧ (okS D → ¬ bdV (bdO D B) ≤ 1000000000 → m'.1 58 3 = 52 ∧ m'.1 58 4 = m.1 63 n) ∧ (¬ okS D → m'.1 58 3 = 51 ∧ m'.1 58 4 = m.1 63 n))))))))) := by
    intro m2 k2 e2 f1 f2
    have hd2 := h.kmr k2
    have es : m2.1 93 (b + 1) - m2.1 93 b = nI D.length := by
      rw [hd2.2.2.1, hd2.2.2.2.1, nI_sub (by omega), Nat.add_sub_cancel_left]
    rw [es]
    refine yC.mono (by omega) (fun r m3 q => ⟨q.1, ?_⟩) (c390 xs hU (csF_c hU hBb) 60 d 0 D.length none m2 (fun t ht => by cases ht) (Nat.zero_le _) (Nat.le_refl _) hd2 (fun x hx => by rw [e2]; exact hB x hx) hl)
    obtain ⟨-, t1, t2, t3, k3⟩ := q
    refine y_cl (c392 xs (d + 62) m3 _ _) (by omega) ⟨xb, xb, ?_⟩
    have hv : AB 2000003000 (bdO D B) (grV (m3.2 58 58) (m3.2 58 60)) := t1.mx t3 (grV_i _ _)
    obtain ⟨b1, b2, b3⟩ := bd_val hv
    rw [y_sl_same]
    generalize grV (m3.2 58 58) (m3.2 58 60) = v at *
    have km3 : KMr m (y_sl m3 94 b v) := by
      refine k2.tr ⟨fun a i _ _ => ?_, fun i _ _ => ?_, fun a x y z => funext fun j => ?_⟩
      · show m3.1 a i = _
        rw [k3.1]
      · show m3.1 58 i = _
        rw [k3.1]
      · rw [y_sl_at, if_neg (fun w => y w.1), k3.2.1 a x z]
    have o94 : ∀ x, ¬ x = b → (y_sl m3 94 b v).2 94 x = m.2 94 x := fun x hx => by
      rw [y_sl_at, if_neg (fun w => hx w.2), k3.2.1 94 (by omega) (by omega), e2]
    have g1 : ∀ a i, (y_sl m3 94 b v).1 a i = m2.1 a i := fun a i => by
      show m3.1 a i = _
      rw [k3.1]
    have e70' : (y_sl m3 94 b v).1 70 b = nI n := by rw [g1, k2.1 70 _ (by omega) (by omega)]; exact h70
    have e63' : (y_sl m3 94 b v).1 63 n = m.1 63 n := by rw [g1, k2.1 63 _ (by omega) (by omega)]
    refine ⟨fun z => ?_, fun z => ?_⟩
    · have le := b1.mp z
      refine w387_86 xs (d + 63) _ _ _ _ _ ⟨xb, ?_⟩
      refine y_cv (c323a xs (d + 63) _ 52 _) (by omega) ⟨rfl, km3, o94, fun ok _ => ⟨by rw [g1]; exact f1 ok, by rw [y_sl_same]; exact b2 le, b3⟩, fun _ w => absurd le w, fun nok => ?_⟩
      rw [g1, g1]
      exact f2 nok
    · have nle : ¬ bdV (bdO D B) ≤ 1000000000 := fun w => z (b1.mpr w)
      refine w387_86 xs (d + 63) _ _ _ _ _ ⟨xb, ?_⟩
      rw [cb, e70']
      refine y_cv (c323b xs (d + 62) _ 52 n hn) (by omega) ?_
      by_cases ok : okS D
      · rw [if_pos (by rw [g1]; exact f1 ok)]
        refine ⟨rfl, km3.tr (KMr.f _ _ _), o94, fun _ w => absurd w nle, fun _ _ => ⟨?_, ?_⟩, fun w => absurd ok w⟩
        · rw [y_si_at, if_neg (by omega), y_si_same]
        · rw [y_si_same]; exact e63'
      · rw [if_neg (by rw [g1, (f2 ok).1]; decide)]
        refine ⟨rfl, km3, o94, fun w => absurd w ok, fun w => absurd w ok, fun _ => ?_⟩
        rw [g1, g1]
        exact f2 ok
  refine ⟨u, rfl, fun z => ?_, fun z => ?_⟩
  · have ok : okS D := hu.mp z
    refine w387_18 xs (d + 63) _ _ _ m1 _ ⟨xb, y_cv (c323a xs (d + 63) m1 51 _) (by omega) ⟨xb2, xb1, ?_⟩⟩
    rw [cb, cb1]
    exact s2 m1 km1 k1.2 (fun _ => e3) (fun w => absurd ok w)
  · have nok : ¬ okS D := fun w => z (hu.mpr w)
    refine w387_18 xs (d + 63) _ _ _ m1 _ ⟨xb, ?_⟩
    rw [cb, e70, cb1]
    refine y_cv (c323b xs (d + 62) m1 51 n hn) (by omega) ⟨xb2, xb1, ?_⟩
    rw [if_pos e3]
    refine s2 _ (km1.tr (KMr.f _ _ _)) k1.2 (fun w => absurd w nok) (fun _ => ⟨?_, ?_⟩)
    · rw [y_si_at, if_neg (by omega), y_si_same]
    · rw [y_si_same]; exact e63
theorem c367m (xs : List Int32) (d : Nat) {m0 : yM} {T : Nat} {J : JV} {s : SU} (hm : HM m0 T J.2.2.1 s) (hsz : (allC J.2.2.1 s.1 186 s.1.1.length).length ≤ 3000) {m : yM} {Q : Option Value → yM → Prop} (hr : RU J s m) : ∀ (k b : Nat) (B : Nat → Int) (m1 : yM), b + k = s.1.1.length → KMr m m1 → m1.1 58 3 = 0 → (∀ x, x < b → (-1 ≤ B x ∧ B x ≤ 1000000000) ∧ (m1.2 94 x).toInt = B x) → (match msr J.2.2.1 s.1 k b B with | .inl B' => ∀ m', KMr m m' → m'.1 58 3 = 0 → (∀ x, x < s.1.1.length → (m'.2 94 x).toInt = B' x) → Q none m' | .inr (c, b') => ∀ m', KMr m m' → m'.1 58 3 = c → m'.1 58 4 = plF J.2.2.1 (nB s b') → Q none m') → yP (xg xs) (d + 65) 367 79 [(0, .ref 58), (2, .int (nI b))] [] m1 Q := by
  have h16 : s.1.1.length ≤ 16 := hm.2.2.2.2.2
  have hz := hm.1.1
  have hrb := hr.1.b
  have e23 := hrb.1.2.2.2.1
  intro k
  induction k with
  | zero =>
    intro b B m1 hb k1 f1 r1 hq
    have hb : b = s.1.1.length := hb
    subst hb
    refine w367_79 xs (d + 64) _ m1 _ ?_
    rw [k1.2.1 23 (by omega) (by omega), e23]
    exact ⟨fun _ => hq m1 k1 f1 (fun x hx => (r1 x hx).2), fun z => absurd (nI_le (Nat.le_refl _) (by omega)) z⟩
  | succ k ih =>
    intro b B m1 hb k1 f1 r1 hq
    have hb' : b < s.1.1.length := by omega
    have h0 := unC_0 hz hb'
    have rd := (RD_of hr h16 hsz hb' h0).kmr k1
    have ul : (unC J.2.2.1 s.1 186 b).length ≤ 3000 := by have := un_le J.2.2.1 s.1 hb'; omega
    have hl := unC_L (M := 60) hz hb' (ck_of hz hm.2.2.1 hm.2.2.2.1 hb' h16) ul hm.2.2.2.2.1
    obtain ⟨p1, p2, -⟩ := hrb.b hb'
    obtain ⟨x1, -, x2, -⟩ := hr.1.t.2.1 _ p1
    have e70 : m1.1 70 b = nI (J.2.2.2 (nB s b)) := by rw [k1.1 70 _ (by omega) (by omega)]; exact p2
    have e63 : m1.1 63 (J.2.2.2 (nB s b)) = plF J.2.2.1 (nB s b) := by rw [k1.1 63 _ (by omega) (by omega)]; exact x2
    refine w367_79 xs (d + 64) _ m1 _ ?_
    rw [k1.2.1 23 (by omega) (by omega), e23]
    refine ⟨fun z => ?_, fun _ => ⟨fun z => absurd f1 z, fun _ => yC.mono (by omega) (fun r m2 q => ⟨q.1, ?_⟩) (c387 xs d rd (unC_f hz hb') h0 (unC_o _ _ _) (show b ≤ 16 by omega) (fun x hx => (r1 x hx).1) (fun x hx => (r1 x hx).2) hl f1 x1 e70)⟩⟩
    · have := (nI_leI (by omega) (by omega)).mp z
      omega
    · obtain ⟨-, k2, o2, q1, q2, q3⟩ := q
      have k3 := k1.tr k2
      rw [e63] at q2 q3
      have es : msr J.2.2.1 s.1 (k + 1) b B = if okS (unC J.2.2.1 s.1 186 b) then (if bdV (bdO (unC J.2.2.1 s.1 186 b) B) ≤ 1000000000 then msr J.2.2.1 s.1 k (b + 1) (fun x => if x = b then bdV (bdO (unC J.2.2.1 s.1 186 b) B) else B x) else .inr (52, b)) else .inr (51, b) := rfl
      rw [es] at hq
      -- a fault ends it
      have stop : ∀ c : Int32, ¬ c = 0 → m2.1 58 3 = c → m2.1 58 4 = plF J.2.2.1 (nB s b) → (∀ m', KMr m m' → m'.1 58 3 = c → m'.1 58 4 = plF J.2.2.1 (nB s b) → Q none m') → yP (xg xs) (d + 65) 367 79 [(0, .ref 58), (2, .int (nI b + 1))] [] m2 Q := by
        intro c c0 e3 e4 hQ
        refine w367_79 xs (d + 64) _ m2 _ ⟨fun _ => hQ m2 k3 e3 e4, fun _ => ⟨fun _ => hQ m2 k3 e3 e4, fun z => absurd (e3.symm.trans z) c0⟩⟩
      by_cases ok : okS (unC J.2.2.1 s.1 186 b)
      · rw [if_pos ok] at hq
        by_cases le : bdV (bdO (unC J.2.2.1 s.1 186 b) B) ≤ 1000000000
        · rw [if_pos le] at hq
          obtain ⟨g1, g2, g3⟩ := q1 ok le
          rw [nI_1]
          refine ih (b + 1) _ m2 (by omega) k3 g1 (fun x hx => ?_) hq
          by_cases c : x = b
          · rw [if_pos c, c]
            exact ⟨⟨g3, le⟩, g2⟩
          · rw [if_neg c, o2 x c]
            exact r1 x (by omega)
        · rw [if_neg le] at hq
          obtain ⟨g1, g2⟩ := q2 ok le
          exact stop 52 (by decide) g1 g2 hq
      · rw [if_neg ok] at hq
        obtain ⟨g1, g2⟩ := q3 ok
        exact stop 51 (by decide) g1 g2 hq
