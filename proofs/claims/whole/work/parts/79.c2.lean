/-! MEASURE: how many steps, as the reference finds it -/
def cpV (v : Int64) : Int64 := if lg_cmp v 2000000000 ≤ 0 then v else 2000000000
def grV (a b : Int64) : Int64 := if lg_cmp a b ≤ 0 then b else a
theorem cpV_i (v : Int64) : (cpV v).toInt = min v.toInt 2000000000 := by
  unfold cpV
  split
  · rename_i h
    rw [lg_cmp_le, Int64.le_iff_toInt_le, show (2000000000 : Int64).toInt = 2000000000 from rfl] at h
    omega
  · rename_i h
    rw [lg_cmp_le, Int64.le_iff_toInt_le, show (2000000000 : Int64).toInt = 2000000000 from rfl] at h
    rw [show (2000000000 : Int64).toInt = 2000000000 from rfl]
    omega
theorem grV_i (a b : Int64) : (grV a b).toInt = max a.toInt b.toInt := by
  unfold grV
  split
  · rename_i h
    rw [lg_cmp_le, Int64.le_iff_toInt_le] at h
    omega
  · rename_i h
    rw [lg_cmp_le, Int64.le_iff_toInt_le] at h
    omega
theorem c391 (xs : List Int32) (d : Nat) (m : yM) (v : Int64) : yC (xg xs) (d + 1) 391 [.long v] m (fun r m' => r = some (.long (cpV v)) ∧ m' = m) := by
  unfold cpV
  exact w391_0 xs d _ m _ ⟨fun h => by rw [if_pos h]; exact ⟨rfl, rfl⟩, fun h => by rw [if_neg h]; exact ⟨rfl, rfl⟩⟩
theorem c392 (xs : List Int32) (d : Nat) (m : yM) (a b : Int64) : yC (xg xs) (d + 1) 392 [.long a, .long b] m (fun r m' => r = some (.long (grV a b)) ∧ m' = m) := by
  unfold grV
  exact w392_0 xs d _ _ m _ ⟨fun h => by rw [if_pos h]; exact ⟨rfl, rfl⟩, fun h => by rw [if_neg h]; exact ⟨rfl, rfl⟩⟩
/-- what each instruction costs: itself, and the unit that it calls -/
def CSt (D : List IT) (U : Nat) (cs : Nat → Nat) (B : Nat → Int) : Prop := (∀ i, i < D.length → ((D.getD i dIT).1 = 15 ∨ (D.getD i dIT).1 = 16 → ∀ b, b < U → (D.getD i dIT).2.1 = nI b → (cs i : Int) = B b + 1) ∧ (¬ ((D.getD i dIT).1 = 15 ∨ (D.getD i dIT).1 = 16) → cs i = 1)) ∧ ∀ b, b < U → -1 ≤ B b ∧ B b ≤ 1000000000
def K97 (S a q : Nat) (m m' : yM) : Prop := m'.1 = m.1 ∧ (∀ x, ¬ x = 58 → ¬ x = 97 → m'.2 x = m.2 x) ∧ (∀ k, k < S + a ∨ S + q < k → m'.2 97 k = m.2 97 k) ∧ ∀ k, ¬ k = 58 → ¬ k = 59 → ¬ k = 60 → m'.2 58 k = m.2 58 k
theorem K97.re (S a q : Nat) (m : yM) : K97 S a q m m := ⟨rfl, fun _ _ _ => rfl, fun _ _ => rfl, fun _ _ _ _ => rfl⟩
theorem K97.tr {S a q a' q' : Nat} {m m1 m2 : yM} (h : K97 S a q m m1) (h2 : K97 S a' q' m1 m2) (ha : a ≤ a') (hq : q' ≤ q) : K97 S a q m m2 := ⟨h2.1.trans h.1, fun x h1 h3 => (h2.2.1 x h1 h3).trans (h.2.1 x h1 h3), fun k hk => (h2.2.2.1 k (by omega)).trans (h.2.2.1 k hk), fun k x1 x2 x3 => (h2.2.2.2 k x1 x2 x3).trans (h.2.2.2 k x1 x2 x3)⟩
theorem K97.s (S a q : Nat) (m : yM) {k : Nat} (h1 : a ≤ k) (h2 : k ≤ q) (v : Int64) : K97 S a q m (y_sl m 97 (S + k) v) := ⟨rfl, fun x _ h => funext fun j => by rw [y_sl_at, if_neg (fun z => h z.1)], fun j hj => by rw [y_sl_at, if_neg (fun z => by omega)], fun j _ _ _ => by rw [y_sl_at, if_neg (fun z => by omega)]⟩
theorem RD.k97 {D : List IT} {S b S' a q : Nat} {m m' : yM} (h : RD D S b m) (k : K97 S' a q m m') : RD D S b m' := by
  unfold RD at h ⊢
  rw [k.1]
  exact h
abbrev o3 : Type := Option Nat × Option Nat × Option Nat
/-- the answers of a pass -/
def g3Q (S a q : Nat) (o : o3) (m : yM) (r : Option Value) (m' : yM) : Prop := r = none ∧ AB 2000003000 o.1 (m'.2 58 58) ∧ AB 2000003000 o.2.1 (m'.2 58 59) ∧ AB 2000003000 o.2.2 (m'.2 58 60) ∧ K97 S a q m m'
def W97 (S i q : Nat) (w : Nat → Option Nat) (m : yM) : Prop := ∀ k, i ≤ k → k ≤ q → AB (2000000000 + k) (w k) (m.2 97 (S + k))
theorem W97.up {S i q k : Nat} {w : Nat → Option Nat} {m : yM} (h : W97 S i q w m) (h1 : i ≤ k) (h2 : k ≤ q) {o : Option Nat} {v u : Int64} (hv : AB (2000000000 + k) o v) (hu : u.toInt = max (m.2 97 (S + k)).toInt v.toInt) : W97 S i q (upM w k o) (y_sl m 97 (S + k) u) := by
  intro j j1 j2
  unfold upM
  by_cases c : j = k
  · rw [c, if_pos rfl, y_sl_same]
    exact (h k h1 h2).mx hv hu
  · rw [if_neg c, y_sl_at, if_neg (fun z => by omega)]
    exact h j j1 j2
theorem W97.mo {S i i' q : Nat} {w : Nat → Option Nat} {m : yM} (h : W97 S i q w m) (h1 : i ≤ i') : W97 S i' q w m := fun k k1 k2 => h k (by omega) k2
theorem i64_nI {n : Nat} (h : n < 2147483648) : (nI n).toInt64.toInt = n := by rw [i64_r, nI_toInt h]
theorem c390s (xs : List Int32) (d : Nat) {D : List IT} {S b U : Nat} {B : Nat → Int} {cs : Nat → Nat} (hU : U ≤ 16) (hcs : CSt D U cs B) {R : Nat → Nat → Prop} {inn : Nat → Nat → o3} (hin : ∀ a b' m, R a b' → a + 1 ≤ b' → b' ≤ D.length → RD D S b m → (∀ x, x < U → (m.2 94 x).toInt = B x) → yC (xg xs) (d + 1) 390 [.ref 58, .int (nI b), .int (nI a), .int (nI (b' - 1))] m (g3Q S a (b' - 1) (inn a (b' - 1)) m)) {a q : Nat} {out : Option Nat} (hout : ∀ t, out = some t → t = q + 1 ∧ t ≤ D.length) (haq : a ≤ q) (hq : q ≤ D.length) {m : yM} (hr : RD D S b m) (hB : ∀ x, x < U → (m.2 94 x).toInt = B x) {k0 : Nat} (hl : LPk D U R out q k0 a) : yC (xg xs) (d + 2) 390 [.ref 58, .int (nI b), .int (nI a), .int (nI q)] m (g3Q S a q ((gI D cs inn q (q - a) a (fun k => if k = a then some 0 else none, none, none)).1 q, (gI D cs inn q (q - a) a (fun k => if k = a then some 0 else none, none, none)).2) m) := by
  have hS := hr.1
  have hb := hr.2.1
  -- the pass
  have lp : ∀ (k i K : Nat) (st : gW) (l5 l7 : Int64) (m1 : yM), LPk D U R out q k i → q - i ≤ K → a ≤ i → W97 S i q st.1 m1 → AB 2000003000 st.2.1 l5 → AB 2000003000 st.2.2 l7 → K97 S a q m m1 → yP (xg xs) (d + 2) 390 59 [(0, .ref 58), (1, .int (nI b)), (3, .int (nI q)), (4, .int (nI S)), (5, .long l5), (7, .long l7), (9, .int (nI i))] [] m1 (g3Q S a q ((gI D cs inn q K i st).1 q, (gI D cs inn q K i st).2) m) := by
    intro k
    induction k with
    | zero =>
      intro i K st l5 l7 m1 hk hK ha hw h5 h7 hk1
      have hk : i = q := hk
      subst hk
      rw [gI_q]
      have ea : nI S + nI i = nI (S + i) := nI_add ..
      refine w390_59 xs (d + 1) _ _ _ _ _ _ m1 _ ⟨fun _ => ?_, fun z => absurd (nI_le (Nat.le_refl _) (by omega)) z⟩
      rw [ea, nI_clamp (by omega)]
      refine ⟨x_in_nI (by omega) (by decide), rfl, ?_, ?_, ?_, ?_⟩
      · have e : (y_sl (y_sl (y_sl m1 58 58 (m1.2 97 (S + i))) 58 59 l5) 58 60 l7).2 58 58 = m1.2 97 (S + i) := by
          rw [y_sl_at, if_neg (by omega), y_sl_at, if_neg (by omega), y_sl_same]
        rw [e]
        exact (hw i (Nat.le_refl _) (Nat.le_refl _)).w (by omega)
      · have e : (y_sl (y_sl (y_sl m1 58 58 (m1.2 97 (S + i))) 58 59 l5) 58 60 l7).2 58 59 = l5 := by
          rw [y_sl_at, if_neg (by omega), y_sl_same]
        rw [e]
        exact h5
      · have e : (y_sl (y_sl (y_sl m1 58 58 (m1.2 97 (S + i))) 58 59 l5) 58 60 l7).2 58 60 = l7 := by
          rw [y_sl_same]
        rw [e]
        exact h7
      · refine hk1.tr (a' := a) (q' := i) ⟨rfl, fun x x1 x2 => funext fun j => ?_, fun j hj => ?_, fun j j1 j2 j3 => ?_⟩ (Nat.le_refl _) (Nat.le_refl _)
        · rw [y_sl_at, if_neg (fun z => x1 z.1), y_sl_at, if_neg (fun z => x1 z.1), y_sl_at, if_neg (fun z => x1 z.1)]
        · rw [y_sl_at, if_neg (by omega), y_sl_at, if_neg (by omega), y_sl_at, if_neg (by omega)]
        · rw [y_sl_at, if_neg (fun z => j3 z.2), y_sl_at, if_neg (fun z => j2 z.2), y_sl_at, if_neg (fun z => j1 z.2)]
    | succ k ih =>
      intro i K st l5 l7 m1 hk hK ha hw h5 h7 hk1
      obtain ⟨lt, -, -, ok, rest⟩ := hk
      obtain ⟨nx1, nx2⟩ := LPk.adv ok lt hq (by omega)
      obtain ⟨K, rfl⟩ : ∃ K', K = K' + 1 := ⟨K - 1, by omega⟩
      rw [gI_s D cs inn lt]
      have hd1 := hr.k97 hk1
      have hx : D[i]? = some (D.getD i dIT) := getD_some (by omega)
      obtain ⟨a1, a2, a3⟩ := hd1.2.2.2.2 i _ hx
      have ea : nI S + nI i = nI (S + i) := nI_add ..
      have ci : (nI (S + i)).toNatClampNeg = S + i := nI_clamp (by omega)
      have xi : x_in (nI (S + i)) 3001 = true := x_in_nI (by omega) (by decide)
      have xi2 : x_in (nI (S + i)) 3002 = true := x_in_nI (by omega) (by decide)
      have vi := hw i (Nat.le_refl _) (by omega)
      have nle : ¬ nI q ≤ nI i := fun z => by
        have := (nI_leI (by omega) (by omega)).mp z
        omega
      obtain ⟨k14, k1516, k10, k11, k13⟩ := ok
      -- on to the next one
      have nxt : ∀ (st' : gW) (u5 u7 : Int64) (m2 : yM) (stp : Int32), nI i + stp = nI (nx D i) → gSt D cs inn q i st = st' → W97 S (nx D i) q st'.1 m2 → AB 2000003000 st'.2.1 u5 → AB 2000003000 st'.2.2 u7 → K97 S a q m m2 → yP (xg xs) (d + 2) 390 571 [(0, .ref 58), (1, .int (nI b)), (3, .int (nI q)), (4, .int (nI S)), (5, .long u5), (7, .long u7), (9, .int (nI i)), (13, .int stp)] [] m2 (g3Q S a q ((gI D cs inn q K (nx D i) (gSt D cs inn q i st)).1 q, (gI D cs inn q K (nx D i) (gSt D cs inn q i st)).2) m) := by
        intro st' u5 u7 m2 stp hstp hst w2 h52 h72 k2
        rw [hst]
        refine w390_571 xs (d + 1) _ _ _ _ _ _ _ m2 _ ?_
        rw [hstp]
        exact ih (nx D i) K st' u5 u7 m2 rest (by omega) (by omega) w2 h52 h72 k2
      by_cases o13 : (D.getD i dIT).1 = 13
      · obtain ⟨⟨n, n1, n2, n3⟩, bb, b1, b2, b3, b4, b5⟩ := k13 o13
        have en : nx D i = bb := by unfold nx; rw [if_pos o13, b1, nI_clamp (by omega)]
        rw [en] at nx1 nx2
        have hxp : D[i - 1]? = some (D.getD (i - 1) dIT) := getD_some (by omega)
        have a3' := (hd1.2.2.2.2 (i - 1) _ hxp).2.2
        have es : nI (S + i) - 1 = nI (S + (i - 1)) := by
          rw [show (1 : Int32) = nI 1 from rfl, nI_sub (by omega)]
          congr 1
          omega
        have es2 : nI bb - 1 = nI (bb - 1) := by
          rw [show (1 : Int32) = nI 1 from rfl, nI_sub (by omega)]
        have stE : ∀ dd, st.1 i = some dd → gSt D cs inn q i st = (upM st.1 bb (lpE (inn (i + 1) (bb - 1)) n dd), st.2.1, omx st.2.2 (lpL (inn (i + 1) (bb - 1)) n dd)) := by
          intro dd hdd
          unfold gSt
          rw [hdd]
          dsimp only
          rw [if_pos o13, en, n3, nI_clamp (by omega)]
        have stN : st.1 i = none → gSt D cs inn q i st = st := by
          intro hdd
          unfold gSt
          rw [hdd]
        refine w390_59 xs (d + 1) _ _ _ _ _ _ m1 _ ⟨fun z => absurd z nle, fun _ => ?_⟩
        rw [ea, ci, a1, a3, b1, es, nI_clamp (show S + (i - 1) < 2147483648 by omega), a3', n3, es2, nI_1]
        refine ⟨xi2, xi, fun z => absurd o13 z, fun _ => ⟨xi, x_in_nI (by omega) (by decide), ?_⟩⟩
        refine yC.mono (by omega) (fun r m2 q2 => ⟨q2.1, ?_⟩) (hin (i + 1) bb m1 b5 (by omega) (by omega) hd1 (fun x hx => by rw [hk1.2.1 94 (by omega) (by omega)]; exact hB x hx))
        obtain ⟨-, t1, t2, t3, kk⟩ := q2
        have k2 := hk1.tr kk (by omega) (by omega)
        have w2 : W97 S bb q st.1 m2 := fun j j1 j2 => by
          rw [kk.2.2.1 (S + j) (by omega)]
          exact hw j (by omega) j2
        have nn : (nI n).toInt64.toInt = n := i64_nI (by omega)
        generalize inn (i + 1) (bb - 1) = r at *
        generalize hkp : m1.2 97 (S + i) = kp at *
        have sub : nI i + (nI bb - nI i) = nI (nx D i) := by
          rw [en, nI_sub (by omega), nI_add]
          congr 1
          omega
        -- row 345
        have s345 : ∀ (st' : gW) (u7 : Int64) (m3 : yM), gSt D cs inn q i st = st' → W97 S bb q st'.1 m3 → st'.2.1 = st.2.1 → AB 2000003000 st'.2.2 u7 → K97 S a q m m3 → yP (xg xs) (d + 2) 390 345 [(0, .ref 58), (1, .int (nI b)), (3, .int (nI q)), (4, .int (nI S)), (5, .long l5), (7, .long u7), (9, .int (nI i)), (14, .int (nI bb))] [] m3 (g3Q S a q ((gI D cs inn q K (nx D i) (gSt D cs inn q i st)).1 q, (gI D cs inn q K (nx D i) (gSt D cs inn q i st)).2) m) := by
          intro st' u7 m3 e1 w3 e2 h72 k3
          exact w390_345 xs (d + 1) _ _ _ _ _ _ _ m3 _ (nxt st' l5 u7 m3 _ sub e1 (by rw [en]; exact w3) (by rw [e2]; exact h5) h72 k3)
        -- row 318
        have s318 : ∀ dd (l23 u7 : Int64), st.1 i = some dd → AB (2000000000 + bb) (lpE r n dd) l23 → AB 2000003000 (omx st.2.2 (lpL r n dd)) u7 → yP (xg xs) (d + 2) 390 318 [(0, .ref 58), (1, .int (nI b)), (3, .int (nI q)), (4, .int (nI S)), (5, .long l5), (9, .int (nI i)), (14, .int (nI bb)), (23, .long l23)] [.long u7] m2 (g3Q S a q ((gI D cs inn q K (nx D i) (gSt D cs inn q i st)).1 q, (gI D cs inn q K (nx D i) (gSt D cs inn q i st)).2) m) := by
          intro dd l23 u7 hdd h23 hu7
          have eb : nI S + nI bb = nI (S + bb) := nI_add ..
          refine w390_318 xs (d + 1) _ _ _ _ _ _ _ _ m2 _ ?_
          rw [eb, nI_clamp (by omega)]
          refine ⟨x_in_nI (by omega) (by decide), y_cl (c392 xs d m2 _ _) (by omega) ⟨x_in_nI (by omega) (by decide), ?_⟩⟩
          exact s345 _ u7 _ (stE dd hdd) (w2.up (Nat.le_refl _) nx2 h23 (grV_i _ _)) rfl hu7 (k2.tr (K97.s S a q m2 (by omega) nx2 _) (Nat.le_refl _) (Nat.le_refl _))
        -- not come to
        cases hdd : st.1 i with
        | none =>
          rw [hdd] at vi
          have neg := vi.lt.1.mpr rfl
          have out345 : yP (xg xs) (d + 2) 390 345 [(0, .ref 58), (1, .int (nI b)), (3, .int (nI q)), (4, .int (nI S)), (5, .long l5), (7, .long l7), (9, .int (nI i)), (14, .int (nI bb))] [] m2 (g3Q S a q ((gI D cs inn q K (nx D i) (gSt D cs inn q i st)).1 q, (gI D cs inn q K (nx D i) (gSt D cs inn q i st)).2) m) := s345 st l7 m2 (stN hdd) w2 rfl h7 k2
          have s183 : ∀ l19 s0, yP (xg xs) (d + 2) 390 183 [(0, .ref 58), (1, .int (nI b)), (3, .int (nI q)), (4, .int (nI S)), (5, .long l5), (7, .long l7), (9, .int (nI i)), (14, .int (nI bb)), (15, .long (nI n).toInt64), (17, .long kp), (19, .long l19)] [.long s0] m2 (g3Q S a q ((gI D cs inn q K (nx D i) (gSt D cs inn q i st)).1 q, (gI D cs inn q K (nx D i) (gSt D cs inn q i st)).2) m) := fun l19 s0 => w390_183 xs (d + 1) _ _ _ _ _ _ _ _ _ _ _ m2 _ ⟨fun _ => out345, fun z => absurd neg z⟩
          have s160 : ∀ s0, yP (xg xs) (d + 2) 390 160 [(0, .ref 58), (1, .int (nI b)), (3, .int (nI q)), (4, .int (nI S)), (5, .long l5), (7, .long l7), (9, .int (nI i)), (14, .int (nI bb)), (15, .long (nI n).toInt64), (17, .long kp)] [.long s0] m2 (g3Q S a q ((gI D cs inn q K (nx D i) (gSt D cs inn q i st)).1 q, (gI D cs inn q K (nx D i) (gSt D cs inn q i st)).2) m) := fun s0 => w390_160 xs (d + 1) _ _ _ _ _ _ _ _ _ _ m2 _ ⟨fun _ => s183 _ _, fun _ => y_cl (c391 xs d m2 _) (by omega) (s183 _ _)⟩
          exact ⟨fun _ => s160 _, fun _ => y_cl (c391 xs d m2 _) (by omega) (s160 _)⟩
        | some dd =>
          rw [hdd] at vi
          have npos : ¬ lg_cmp kp 0 < 0 := fun z => by have := vi.lt.1.mp z; cases this
          have kp0 := vi.1
          have kp1 := vi.2.1
          have l0 : (lg_cmp (nI n).toInt64 0 = 0) ↔ n = 0 := by
            rw [lg_cmp_eq, ← Int64.toInt_inj, nn, z64]
            omega
          have l1 : (lg_cmp (nI n).toInt64 0 ≤ 0) ↔ n = 0 := by
            rw [lg_cmp_le, Int64.le_iff_toInt_le, nn, z64]
            omega
          -- behind the loop's end: full and before are known
          have s183 : ∀ (full bf : Int64), (match r.1 with | none => full = -1 ∧ (n = 0 ∨ bf = 0) | some e => AB 2000000000 (some (e + 2)) full ∧ (n = 0 ∨ AB 2000000000 (some ((n - 1) * (e + 2))) bf)) → yP (xg xs) (d + 2) 390 183 [(0, .ref 58), (1, .int (nI b)), (3, .int (nI q)), (4, .int (nI S)), (5, .long l5), (7, .long l7), (9, .int (nI i)), (14, .int (nI bb)), (15, .long (nI n).toInt64), (17, .long kp), (19, .long full)] [.long bf] m2 (g3Q S a q ((gI D cs inn q K (nx D i) (gSt D cs inn q i st)).1 q, (gI D cs inn q K (nx D i) (gSt D cs inn q i st)).2) m) := by
            intro full bf hfb
            by_cases n0 : n = 0
            · have e23 : AB (2000000000 + bb) (lpE r n dd) (kp + 1) := by
                unfold lpE
                rw [if_pos n0]
                have := vi.add (AB.con (t := 1) (x := 1) rfl) (z := kp + 1) (l_add (by omega) (by omega) (by decide) (by decide))
                exact this.w (by omega)
              have eL : omx st.2.2 (lpL r n dd) = st.2.2 := by unfold lpL; rw [if_pos n0, omx_n]
              refine w390_183 xs (d + 1) _ _ _ _ _ _ _ _ _ _ _ m2 _ ⟨fun z => absurd z npos, fun _ => ⟨fun z => absurd (l0.mpr n0) z, fun _ => ?_⟩⟩
              refine w390_232 xs (d + 1) _ _ _ _ _ _ _ _ _ _ _ m2 _ ⟨fun _ => w390_273 xs (d + 1) _ _ _ _ _ _ _ _ _ _ _ m2 _ ?_, fun z => absurd (l1.mpr n0) z⟩
              refine w390_275 xs (d + 1) _ _ _ _ _ _ _ _ _ _ _ m2 _ ⟨fun _ => w390_316 xs (d + 1) _ _ _ _ _ _ _ _ m2 _ ?_, fun z => absurd (l1.mpr n0) z⟩
              exact s318 dd _ _ hdd e23 (by rw [eL]; exact h7)
            · have bfA : AB 2000000000 (some (match r.1 with | some e => (n - 1) * (e + 2) | none => 0)) bf := by
                cases hr1 : r.1 with
                | none =>
                  rw [hr1] at hfb
                  rw [hfb.2.resolve_left n0]
                  exact (AB.con (t := 0) rfl).w (by omega)
                | some e =>
                  rw [hr1] at hfb
                  exact hfb.2.resolve_left n0
              have bf0 := bfA.1
              have bf1 := bfA.2.1
              -- behind its steps
              have tailA : ∀ (x : Nat) (X : Int64), AB 2000003000 (some x) X → AB 2000000000 (some (dd + (match r.1 with | some e => (n - 1) * (e + 2) | none => 0) + 1 + x)) (cpV (((kp + bf) + 1) + X)) := by
                intro x X hX
                have x0 := hX.1
                have x1 := hX.2.1
                have g1 := l_add (x := kp) (y := bf) (by omega) (by omega) (by omega) (by omega)
                have g2 := l_add (x := kp + bf) (y := 1) (by omega) (by omega) (by decide) (by decide)
                have o1 : (1 : Int64).toInt = 1 := rfl
                have g3 := l_add (x := kp + bf + 1) (y := X) (by omega) (by omega) (by omega) (by omega)
                exact ((((vi.add bfA g1).add (AB.con (t := 1) (x := 1) rfl) g2).add hX g3).cap (by omega) (cpV_i _))
              have s275 : ∀ s0, AB (2000000000 + bb) (lpE r n dd) s0 → yP (xg xs) (d + 2) 390 275 [(0, .ref 58), (1, .int (nI b)), (3, .int (nI q)), (4, .int (nI S)), (5, .long l5), (7, .long l7), (9, .int (nI i)), (14, .int (nI bb)), (15, .long (nI n).toInt64), (17, .long kp), (21, .long bf)] [.long s0] m2 (g3Q S a q ((gI D cs inn q K (nx D i) (gSt D cs inn q i st)).1 q, (gI D cs inn q K (nx D i) (gSt D cs inn q i st)).2) m) := by
                intro s0 h23
                cases hr2 : r.2.2 with
                | none =>
                  have eL : omx st.2.2 (lpL r n dd) = st.2.2 := by unfold lpL; rw [if_neg n0, hr2]; exact omx_n _
                  rw [hr2] at t3
                  refine w390_275 xs (d + 1) _ _ _ _ _ _ _ _ _ _ _ m2 _ ⟨fun z => absurd (l1.mp z) n0, fun _ => ⟨fun _ => w390_316 xs (d + 1) _ _ _ _ _ _ _ _ m2 _ ?_, fun z => absurd (t3.lt.1.mpr rfl) z⟩⟩
                  exact s318 dd _ _ hdd h23 (by rw [eL]; exact h7)
                | some x =>
                  rw [hr2] at t3
                  have hz : ¬ lg_cmp (m2.2 58 60) 0 < 0 := fun z => by have := t3.lt.1.mp z; cases this
                  have eL : lpL r n dd = some (dd + (match r.1 with | some e => (n - 1) * (e + 2) | none => 0) + 1 + x) := by unfold lpL; rw [if_neg n0, hr2]; rfl
                  refine w390_275 xs (d + 1) _ _ _ _ _ _ _ _ _ _ _ m2 _ ⟨fun z => absurd (l1.mp z) n0, fun _ => ⟨fun z => absurd z hz, fun _ => y_cl (c391 xs d m2 _) (by omega) (y_cl (c392 xs d m2 _ _) (by omega) ?_)⟩⟩
                  refine s318 dd _ _ hdd h23 ?_
                  rw [eL]
                  exact h7.mx ((tailA x _ t3).w (by omega)) (grV_i _ _)
              have s232 : ∀ s0, AB 2000000000 (r.1.map (fun e => dd + n * (e + 2) + 1)) s0 → yP (xg xs) (d + 2) 390 232 [(0, .ref 58), (1, .int (nI b)), (3, .int (nI q)), (4, .int (nI S)), (5, .long l5), (7, .long l7), (9, .int (nI i)), (14, .int (nI bb)), (15, .long (nI n).toInt64), (17, .long kp), (21, .long bf)] [.long s0] m2 (g3Q S a q ((gI D cs inn q K (nx D i) (gSt D cs inn q i st)).1 q, (gI D cs inn q K (nx D i) (gSt D cs inn q i st)).2) m) := by
                intro s0 h0
                cases hr2 : r.2.1 with
                | none =>
                  have eE : lpE r n dd = r.1.map (fun e => dd + n * (e + 2) + 1) := by unfold lpE; rw [if_neg n0, hr2]; exact omx_n _
                  rw [hr2] at t2
                  refine w390_232 xs (d + 1) _ _ _ _ _ _ _ _ _ _ _ m2 _ ⟨fun z => absurd (l1.mp z) n0, fun _ => ⟨fun _ => w390_273 xs (d + 1) _ _ _ _ _ _ _ _ _ _ _ m2 _ ?_, fun z => absurd (t2.lt.1.mpr rfl) z⟩⟩
                  exact s275 s0 (by rw [eE]; exact h0.w (by omega))
                | some x =>
                  rw [hr2] at t2
                  have hz : ¬ lg_cmp (m2.2 58 59) 0 < 0 := fun z => by have := t2.lt.1.mp z; cases this
                  have eE : lpE r n dd = omx (r.1.map (fun e => dd + n * (e + 2) + 1)) (some (dd + (match r.1 with | some e => (n - 1) * (e + 2) | none => 0) + 1 + x)) := by unfold lpE; rw [if_neg n0, hr2]; rfl
                  refine w390_232 xs (d + 1) _ _ _ _ _ _ _ _ _ _ _ m2 _ ⟨fun z => absurd (l1.mp z) n0, fun _ => ⟨fun z => absurd z hz, fun _ => y_cl (c391 xs d m2 _) (by omega) (y_cl (c392 xs d m2 _ _) (by omega) ?_)⟩⟩
                  refine s275 _ ?_
                  rw [eE]
                  exact (h0.mx (tailA x _ t2) (grV_i _ _)).w (by omega)
              cases hr1 : r.1 with
              | none =>
                rw [hr1] at hfb
                have ef : full = -1 := hfb.1
                refine w390_183 xs (d + 1) _ _ _ _ _ _ _ _ _ _ _ m2 _ ⟨fun z => absurd z npos, fun _ => ⟨fun _ => ⟨fun _ => s232 _ (by rw [hr1]; exact AB.n1), fun z => absurd (by rw [ef]; decide) z⟩, fun z => absurd (l0.mp z) n0⟩⟩
              | some e =>
                rw [hr1] at hfb
                obtain ⟨hf, -⟩ := hfb
                have f0 := hf.1
                have f1 := hf.2.1
                have fz : ¬ lg_cmp full 0 < 0 := fun z => by have := hf.lt.1.mp z; cases this
                refine w390_183 xs (d + 1) _ _ _ _ _ _ _ _ _ _ _ m2 _ ⟨fun z => absurd z npos, fun _ => ⟨fun _ => ⟨fun z => absurd z fz, fun _ => y_cl (c391 xs d m2 _) (by omega) (s232 _ ?_)⟩, fun z => absurd (l0.mp z) n0⟩⟩
                rw [hr1]
                have g0 := l_mul (x := (nI n).toInt64) (y := full) n1 nn f0 (by omega)
                have mm := hf.mul g0
                have m0' := mm.1
                have m1' := mm.2.1
                have nb : n * 2000000000 ≤ 1000000 * 2000000000 := Nat.mul_le_mul_right _ n1
                have g1 := l_add (x := kp) (y := (nI n).toInt64 * full) (by omega) (by omega) (by omega) (by omega)
                have g2 := l_add (x := kp + (nI n).toInt64 * full) (y := 1) (by omega) (by omega) (by decide) (by decide)
                exact (((vi.add mm g1).add (AB.con (t := 1) (x := 1) rfl) g2).cap (by omega) (cpV_i _))
          cases hr1 : r.1 with
          | none =>
            rw [hr1] at t1
            have ng := t1.lt.1.mpr rfl
            refine ⟨fun _ => w390_160 xs (d + 1) _ _ _ _ _ _ _ _ _ _ m2 _ ⟨fun _ => s183 _ _ (by rw [hr1]; exact ⟨rfl, Or.inr rfl⟩), fun z => absurd (by decide) z⟩, fun z => absurd ng z⟩
          | some e =>
            rw [hr1] at t1
            have t10 := t1.1
            have t11 := t1.2.1
            have pg : ¬ lg_cmp (m2.2 58 58) 0 < 0 := fun z => by have := t1.lt.1.mp z; cases this
            have g1 := l_add (x := m2.2 58 58) (y := 2) (by omega) (by omega) (by decide) (by decide)
            have fa : AB 2000000000 (some (e + 2)) (cpV (m2.2 58 58 + 2)) := ((t1.add (AB.con (t := 2) (x := 2) rfl) g1).cap (by omega) (cpV_i _))
            have f0 := fa.1
            have f1 := fa.2.1
            have fz : ¬ lg_cmp (cpV (m2.2 58 58 + 2)) 0 < 0 := fun z => by have := fa.lt.1.mp z; cases this
            refine ⟨fun z => absurd z pg, fun _ => y_cl (c391 xs d m2 _) (by omega) (w390_160 xs (d + 1) _ _ _ _ _ _ _ _ _ _ m2 _ ⟨fun z => absurd z fz, fun _ => y_cl (c391 xs d m2 _) (by omega) (s183 _ _ ?_)⟩)⟩
            rw [hr1]
            refine ⟨fa, ?_⟩
            by_cases n0 : n = 0
            · exact Or.inl n0
            · right
              have e1 : ((nI n).toInt64 - 1).toInt = ((n - 1 : Nat) : Int) := by
                rw [Int64.toInt_sub, nn, show (1 : Int64).toInt = 1 from rfl, bm64 (by omega) (by omega)]
                omega
              have g0 := l_mul (x := (nI n).toInt64 - 1) (y := cpV (m2.2 58 58 + 2)) (k := n - 1) (by omega) e1 f0 (by omega)
              exact (fa.mul g0).cap (by omega) (cpV_i _)
      · have en : nx D i = i + 1 := by unfold nx; rw [if_neg o13]
        have one : nI i + 1 = nI (nx D i) := by rw [en, nI_1]
        rw [en] at nx1 nx2
        refine w390_59 xs (d + 1) _ _ _ _ _ _ m1 _ ⟨fun z => absurd z nle, fun _ => ?_⟩
        rw [ea, ci, a1]
        refine ⟨xi2, xi, fun _ => ?_, fun z => absurd z o13⟩
        have w1 : W97 S (nx D i) q st.1 m1 := hw.mo (by omega)
        cases hdd : st.1 i with
        | none =>
          have stN : gSt D cs inn q i st = st := by unfold gSt; rw [hdd]
          rw [hdd] at vi
          exact ⟨fun _ => nxt st l5 l7 m1 1 one stN w1 h5 h7 hk1, fun z => absurd (vi.lt.1.mpr rfl) z⟩
        | some dd =>
          rw [hdd] at vi
          have kp0 := vi.1
          have kp1 := vi.2.1
          have npos : ¬ lg_cmp (m1.2 97 (S + i)) 0 < 0 := fun z => by have := vi.lt.1.mp z; cases this
          obtain ⟨c1, c2⟩ := hcs.1 i (by omega)
          have stE : gSt D cs inn q i st = (if (D.getD i dIT).1 = 18 then (st.1, st.2.1, omx st.2.2 (some (dd + cs i)))
              else if (D.getD i dIT).1 = 10 then (if q < ((D.getD i dIT).2.1).toNatClampNeg then (st.1, omx st.2.1 (some (dd + cs i)), st.2.2) else (upM st.1 ((D.getD i dIT).2.1).toNatClampNeg (some (dd + cs i)), st.2.1, st.2.2))
              else if (D.getD i dIT).1 = 11 then (upM (upM st.1 (i + 1) (some (dd + cs i))) ((D.getD i dIT).2.1).toNatClampNeg (some (dd + cs i)), st.2.1, st.2.2)
              else (upM st.1 (i + 1) (some (dd + cs i)), st.2.1, st.2.2)) := by
            unfold gSt
            rw [hdd]
            dsimp only
            rw [if_neg o13]
          generalize D.getD i dIT = x at *
          generalize hkp : m1.2 97 (S + i) = kp at *
          generalize hcc : cs i = cc at *
          have g1 := l_add (x := kp) (y := 1) (by omega) (by omega) (by decide) (by decide)
          have o1 : (1 : Int64).toInt = 1 := rfl
          -- row 497
          have s497 : ∀ (t : Nat) (u : Int64), i + 1 ≤ t → t ≤ q → AB 2000000000 (some (dd + cc)) u → (x.1 = 11 → t = i + 1) → gSt D cs inn q i st = (if x.1 = 11 then (upM (upM st.1 t (some (dd + cc))) (x.2.1).toNatClampNeg (some (dd + cc)), st.2.1, st.2.2) else (upM st.1 t (some (dd + cc)), st.2.1, st.2.2)) → yP (xg xs) (d + 2) 390 497 [(0, .ref 58), (1, .int (nI b)), (3, .int (nI q)), (4, .int (nI S)), (5, .long l5), (7, .long l7), (9, .int (nI i)), (10, .int (nI (S + i))), (13, .int 1), (14, .long u)] [.int (nI t)] m1 (g3Q S a q ((gI D cs inn q K (nx D i) (gSt D cs inn q i st)).1 q, (gI D cs inn q K (nx D i) (gSt D cs inn q i st)).2) m) := by
            intro t u t1 t2 hu h11 hst
            have et : nI S + nI t = nI (S + t) := nI_add ..
            have w2 := w1.up (by rw [en]; exact t1) t2 (hu.w (M' := 2000000000 + t) (by omega)) (grV_i (m1.2 97 (S + t)) u)
            have k2 := hk1.tr (K97.s S a q m1 (show a ≤ t by omega) t2 (grV (m1.2 97 (S + t)) u)) (Nat.le_refl _) (Nat.le_refl _)
            refine w390_497 xs (d + 1) _ _ _ _ _ _ _ _ _ _ m1 _ ?_
            rw [et, nI_clamp (show S + t < 2147483648 by omega)]
            refine ⟨x_in_nI (by omega) (by decide), y_cl (c392 xs d m1 _ _) (by omega) ⟨x_in_nI (by omega) (by decide), xi, ?_⟩⟩
            rw [ci, a1, a2]
            refine ⟨fun z => nxt _ _ _ _ 1 one (hst.trans (if_neg z)) w2 h5 h7 k2, fun z => ?_⟩
            obtain ⟨t', t3, t4, t5, -⟩ := k11 z
            have et' : nI S + nI t' = nI (S + t') := nI_add ..
            rw [t3, et', nI_clamp (show S + t' < 2147483648 by omega)]
            refine ⟨xi, xi, x_in_nI (by omega) (by decide), y_cl (c392 xs d _ _ _) (by omega) ⟨x_in_nI (by omega) (by decide), ?_⟩⟩
            have w3 := w2.up (by rw [en]; exact t4) t5 (hu.w (M' := 2000000000 + t') (by omega)) (grV_i ((y_sl m1 97 (S + t) (grV (m1.2 97 (S + t)) u)).2 97 (S + t')) u)
            refine nxt _ _ _ _ 1 one (hst.trans (if_pos z)) ?_ h5 h7 (k2.tr (K97.s S a q _ (show a ≤ t' by omega) t5 _) (Nat.le_refl _) (Nat.le_refl _))
            rw [t3, nI_clamp (by omega)]
            exact w3
          -- row 447
          have s447 : ∀ (u : Int64), AB 2000000000 (some (dd + cc)) u → (x.1 = 10 → ¬ q < (x.2.1).toNatClampNeg) → yP (xg xs) (d + 2) 390 447 [(0, .ref 58), (1, .int (nI b)), (3, .int (nI q)), (4, .int (nI S)), (5, .long l5), (7, .long l7), (9, .int (nI i)), (10, .int (nI (S + i))), (13, .int 1), (14, .long u)] [] m1 (g3Q S a q ((gI D cs inn q K (nx D i) (gSt D cs inn q i st)).1 q, (gI D cs inn q K (nx D i) (gSt D cs inn q i st)).2) m) := by
            intro u hu h10
            refine w390_447 xs (d + 1) _ _ _ _ _ _ _ _ _ m1 _ ?_
            rw [ci, a1]
            refine ⟨xi, fun z18 => ⟨xi, fun z10 => ?_, fun z10 => ?_⟩, fun z18 => ?_⟩
            · rw [nI_1]
              refine s497 (i + 1) u (Nat.le_refl _) nx2 hu (fun _ => rfl) ?_
              rw [stE, if_neg z18, if_neg z10]
            · obtain ⟨t, t1, t2⟩ := k10 z10
              have tq : i + 1 ≤ t ∧ t ≤ q := by
                rcases t2 with w | w
                · exfalso
                  obtain ⟨w1, w2⟩ := hout t w
                  apply h10 z10
                  rw [t1, nI_clamp (by omega)]
                  omega
                · exact ⟨w.1, w.2.1⟩
              rw [a2, t1]
              refine ⟨xi, s497 t u tq.1 tq.2 hu (fun z => by rw [z10] at z; exact absurd z (by decide)) ?_⟩
              have ct : (x.2.1).toNatClampNeg = t := by rw [t1]; exact nI_clamp (by omega)
              rw [stE, if_neg z18, if_pos z10, if_neg (h10 z10), ct, if_neg (fun z => by rw [z10] at z; exact absurd z (by decide))]
            · refine y_cl (c392 xs d m1 _ _) (by omega) ?_
              refine nxt (st.1, st.2.1, omx st.2.2 (some (dd + cc))) l5 _ m1 1 one (by rw [stE, if_pos z18]) w1 h5 (h7.mx (hu.w (by omega)) (grV_i _ _)) hk1
          -- row 406
          have s406 : ∀ (s1 : Int64), s1.toInt + 1 = cc → yP (xg xs) (d + 2) 390 406 [(0, .ref 58), (1, .int (nI b)), (3, .int (nI q)), (4, .int (nI S)), (5, .long l5), (7, .long l7), (9, .int (nI i)), (10, .int (nI (S + i))), (13, .int 1)] [.long s1, .long (kp + 1)] m1 (g3Q S a q ((gI D cs inn q K (nx D i) (gSt D cs inn q i st)).1 q, (gI D cs inn q K (nx D i) (gSt D cs inn q i st)).2) m) := by
            intro s1 hs1
            have cb : cc ≤ 1000000001 := by
              by_cases z : x.1 = 15 ∨ x.1 = 16
              · obtain ⟨b', b1, b2⟩ := k1516 z
                have := c1 z b' b1 b2
                have := hcs.2 b' b1
                omega
              · have := c2 z; omega
            have g2 := l_add (x := kp + 1) (y := s1) (by omega) (by omega) (by omega) (by omega)
            have hu : AB 2000000000 (some (dd + cc)) (cpV (kp + 1 + s1)) := (vi.ad cc (z := kp + 1 + s1) (by omega)).cap (by omega) (cpV_i _)
            refine w390_406 xs (d + 1) _ _ _ _ _ _ _ _ _ _ m1 _ (y_cl (c391 xs d m1 _) (by omega) ?_)
            rw [ci, a1, a2]
            refine ⟨xi, fun z10 => s447 _ hu (fun z => absurd z z10), fun z10 => ⟨xi, fun zq => s447 _ hu (fun _ zl => ?_), fun zq => y_cl (c392 xs d m1 _ _) (by omega) ?_⟩⟩
            · obtain ⟨t, t1, t2⟩ := k10 z10
              have tb : t ≤ 3001 := by
                rcases t2 with w | w
                · have := (hout t w).2; omega
                · have := w.2.1; omega
              rw [t1, nI_clamp (by omega)] at zl
              rw [t1] at zq
              have := (nI_leI (by omega) (by omega)).mp zq
              omega
            · have n18 : ¬ x.1 = 18 := fun z => by rw [z10] at z; exact absurd z (by decide)
              have ql : q < (x.2.1).toNatClampNeg := by
                obtain ⟨t, t1, t2⟩ := k10 z10
                have tb : t ≤ 3001 := by
                  rcases t2 with w | w
                  · have := (hout t w).2; omega
                  · have := w.2.1; omega
                rw [t1] at zq
                rw [t1, nI_clamp (by omega)]
                rcases Nat.lt_or_ge q t with w | w
                · exact w
                · exact absurd (nI_le w (by omega)) zq
              exact nxt (st.1, omx st.2.1 (some (dd + cc)), st.2.2) _ l7 m1 1 one (by rw [stE, if_neg n18, if_pos z10, if_pos ql]) w1 (h5.mx (hu.w (by omega)) (grV_i _ _)) h7 hk1
          have s390 : (x.1 = 15 ∨ x.1 = 16) → yP (xg xs) (d + 2) 390 390 [(0, .ref 58), (1, .int (nI b)), (3, .int (nI q)), (4, .int (nI S)), (5, .long l5), (7, .long l7), (9, .int (nI i)), (10, .int (nI (S + i))), (13, .int 1)] [.long (kp + 1)] m1 (g3Q S a q ((gI D cs inn q K (nx D i) (gSt D cs inn q i st)).1 q, (gI D cs inn q K (nx D i) (gSt D cs inn q i st)).2) m) := by
            intro z
            obtain ⟨b', b1, b2⟩ := k1516 z
            have e1 := c1 z b' b1 b2
            have e2 : (m1.2 94 b').toInt = B b' := by rw [hk1.2.1 94 (by omega) (by omega)]; exact hB b' b1
            refine w390_390 xs (d + 1) _ _ _ _ _ _ _ _ _ m1 _ ?_
            rw [ci, a2, b2, nI_clamp (by omega)]
            exact ⟨xi, x_in_nI (by omega) (by decide), s406 _ (by omega)⟩
          refine ⟨fun z => absurd z npos, fun _ => ⟨xi, fun z => s390 (Or.inl z), fun z => ⟨xi, fun z2 => ?_, fun z2 => s390 (Or.inr z2)⟩⟩⟩
          have := c2 (fun w => w.elim z z2)
          exact s406 0 (by show (0 : Int) + 1 = _; omega)
  -- the array is made empty
  have l1 : ∀ (k i : Nat) (m1 : yM), i + k = q + 1 → a ≤ i → K97 S a q m m1 → (∀ j, a ≤ j → j < i → m1.2 97 (S + j) = -1) → yP (xg xs) (d + 2) 390 11 [(0, .ref 58), (1, .int (nI b)), (2, .int (nI a)), (3, .int (nI q)), (4, .int (nI S)), (5, .int (nI i))] [] m1 (g3Q S a q ((gI D cs inn q (q - a) a (fun k => if k = a then some 0 else none, none, none)).1 q, (gI D cs inn q (q - a) a (fun k => if k = a then some 0 else none, none, none)).2) m) := by
    intro k
    induction k with
    | zero =>
      intro i m1 hi hai k1 r1
      have ea : nI S + nI a = nI (S + a) := nI_add ..
      refine w390_11 xs (d + 1) _ _ _ _ _ m1 _ ⟨fun _ => ?_, fun z => absurd (nI_lt (by omega) (by omega)) z⟩
      rw [ea, nI_clamp (by omega)]
      refine ⟨x_in_nI (by omega) (by decide), lp k0 a (q - a) _ _ _ _ hl (Nat.le_refl _) (Nat.le_refl _) (fun j j1 j2 => ?_) AB.n1 AB.n1 (k1.tr (K97.s S a q m1 (Nat.le_refl _) haq _) (Nat.le_refl _) (Nat.le_refl _))⟩
      show AB _ (if j = a then some 0 else none) _
      by_cases c : j = a
      · rw [if_pos c, c, y_sl_same]
        exact (AB.con (t := 0) rfl).w (by omega)
      · rw [if_neg c, y_sl_at, if_neg (fun z => by omega), r1 j j1 (by omega)]
        exact AB.n1
    | succ k ih =>
      intro i m1 hi hai k1 r1
      have ea : nI S + nI i = nI (S + i) := nI_add ..
      refine w390_11 xs (d + 1) _ _ _ _ _ m1 _ ⟨fun z => ?_, fun _ => ?_⟩
      · have := (nI_ltI (by omega) (by omega)).mp z
        omega
      · rw [ea, nI_clamp (by omega), nI_1]
        refine ⟨x_in_nI (by omega) (by decide), ih (i + 1) _ (by omega) (by omega) (k1.tr (K97.s S a q m1 hai (by omega) _) (Nat.le_refl _) (Nat.le_refl _)) (fun j j1 j2 => ?_)⟩
        by_cases c : j = i
        · rw [c, y_sl_same]
        · rw [y_sl_at, if_neg (fun z => by omega)]
          exact r1 j j1 (by omega)
  refine w390_0 xs (d + 1) _ _ _ m _ ⟨x_in_nI (by omega) (by decide), ?_⟩
  rw [nI_clamp (by omega), hr.2.2.1]
  exact l1 (q + 1 - a) a m (by omega) (Nat.le_refl _) (K97.re S a q m) (fun j j1 j2 => by omega)
theorem c390 (xs : List Int32) {D : List IT} {S b U : Nat} {B : Nat → Int} {cs : Nat → Nat} (hU : U ≤ 16) (hcs : CSt D U cs B) : ∀ (N d a q : Nat) (out : Option Nat) (m : yM), (∀ t, out = some t → t = q + 1 ∧ t ≤ D.length) → a ≤ q → q ≤ D.length → RD D S b m → (∀ x, x < U → (m.2 94 x).toInt = B x) → LPz D U N out a q → yC (xg xs) (d + N + 2) 390 [.ref 58, .int (nI b), .int (nI a), .int (nI q)] m (g3Q S a q (gT D cs (N + 1) a q) m) := by
  intro N
  induction N with
  | zero =>
    intro d a q out m ho haq hq hr hB hl
    obtain ⟨k, hl⟩ := hl
    exact c390s xs d hU hcs (inn := gT D cs 0) (R := RL D U 0) (fun a b' m h => absurd h (fun z => z)) ho haq hq hr hB hl
  | succ N ih =>
    intro d a q out m ho haq hq hr hB hl
    obtain ⟨k, hl⟩ := hl
    have := c390s xs (d + N + 1) hU hcs (S := S) (b := b) (inn := gT D cs (N + 1)) (R := RL D U (N + 1)) (fun a b' m h h1 h2 h3 h4 => yC.mono (by omega) (fun _ _ z => z) (ih d a (b' - 1) (some b') m (fun t ht => by have := Option.some.inj ht; omega) (by omega) (by omega) h3 h4 h)) ho haq hq hr hB hl
    exact yC.mono (by omega) (fun _ _ z => z) this
