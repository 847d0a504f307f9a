/-! MEASURE: how many steps, as the class finds it -/
def ofL (l : Nat) : Nat := if l = 0 then 0 else 1
theorem ofL_1 (l : Nat) : ofL l ≤ 1 := by unfold ofL; split <;> omega
theorem cmV_i (v o : Int64) : (cmV v o).toInt = max o.toInt (min v.toInt 1000000000000) := by
  have e : (1000000000000 : Int64).toInt = 1000000000000 := rfl
  unfold cmV
  by_cases h : (1000000000000 : Int64) < v
  · rw [if_pos h]
    have h' := Int64.lt_iff_toInt_lt.mp h
    by_cases g : (1000000000000 : Int64) < o
    · rw [if_pos g]
      have := Int64.lt_iff_toInt_lt.mp g
      omega
    · rw [if_neg g]
      have : ¬ (1000000000000 : Int64).toInt < o.toInt := fun z => g (Int64.lt_iff_toInt_lt.mpr z)
      omega
  · rw [if_neg h]
    have h' : ¬ (1000000000000 : Int64).toInt < v.toInt := fun z => h (Int64.lt_iff_toInt_lt.mpr z)
    by_cases g : v < o
    · rw [if_pos g]
      have := Int64.lt_iff_toInt_lt.mp g
      omega
    · rw [if_neg g]
      have : ¬ v.toInt < o.toInt := fun z => g (Int64.lt_iff_toInt_lt.mpr z)
      omega
theorem mxV_i (a b : Int64) : (if a < b then b else a).toInt = max b.toInt a.toInt := by
  by_cases g : a < b
  · rw [if_pos g]
    have := Int64.lt_iff_toInt_lt.mp g
    omega
  · rw [if_neg g]
    have : ¬ a.toInt < b.toInt := fun z => g (Int64.lt_iff_toInt_lt.mpr z)
    omega
theorem omx_m (a b : Option Nat) (c : Nat) : (omx a b).map (· + c) = omx (a.map (· + c)) (b.map (· + c)) := by
  cases a with
  | none => rfl
  | some a =>
    cases b with
    | none => rfl
    | some b =>
      show some (max a b + c) = some (max (a + c) (b + c))
      congr 1
      omega
theorem omx_a (a b c : Option Nat) : omx (omx a b) c = omx a (omx b c) := by
  cases a with
  | none => rfl
  | some a =>
    cases b with
    | none => rfl
    | some b =>
      cases c with
      | none => rfl
      | some c =>
        show some (max (max a b) c) = some (max a (max b c))
        congr 1
        omega
def W46 (l i q : Nat) (w : Nat → Option Nat) (m : yM) : Prop := ∀ k, i ≤ k → k ≤ q → AB 1000000000000 ((w k).map (· + ofL l)) (m.2 46 k)
theorem W46.mo {l i i' q : Nat} {w : Nat → Option Nat} {m : yM} (h : W46 l i q w m) (hi : i ≤ i') : W46 l i' q w m := fun k k1 k2 => h k (by omega) k2
theorem W46.come {l i q k : Nat} {w : Nat → Option Nat} {m : yM} (h : W46 l i q w m) (h1 : i ≤ k) (h2 : k ≤ q) {t M : Nat} {v : Int64} (hv : AB M (some (t + ofL l)) v) : W46 l i q (upM w k (some t)) (y_sl m 46 k (cmV v (m.2 46 k))) := by
  intro j j1 j2
  unfold upM
  by_cases c : j = k
  · rw [c, if_pos rfl, y_sl_same, omx_m]
    have e : (1000000000000 : Int64).toInt = 1000000000000 := rfl
    by_cases g : v.toInt ≤ 1000000000000
    · have hv' : AB 1000000000000 (some (t + ofL l)) v := ⟨hv.1, by omega, hv.2.2⟩
      exact (h k h1 h2).mx hv' (by rw [cmV_i]; omega)
    · have hv' : AB 1000000000000 (some (t + ofL l)) 1000000000000 := by
        obtain ⟨a1, a2, a3, a4⟩ := hv
        refine ⟨by omega, by omega, fun z => ?_, fun _ => by omega⟩
        have := a3 z
        omega
      exact (h k h1 h2).mx hv' (by rw [cmV_i]; omega)
  · rw [if_neg c, y_sl_at, if_neg (fun z => c z.2)]
    exact h j j1 j2
theorem W46.no {l i q k : Nat} {w : Nat → Option Nat} {m : yM} (h : W46 l i q w m) : W46 l i q (upM w k none) m := fun j j1 j2 => by
  unfold upM
  split
  · rw [omx_n]; exact h j j1 j2
  · exact h j j1 j2
theorem W46.cg {l i q : Nat} {w : Nat → Option Nat} {m m' : yM} (h : W46 l i q w m) (e : ∀ k, i ≤ k → k ≤ q → m'.2 46 k = m.2 46 k) : W46 l i q w m' := fun k k1 k2 => by rw [e k k1 k2]; exact h k k1 k2
/-- only what can be come to at this level is come to -/
def TI (D : List IT) (i q : Nat) (w : Nat → Option Nat) : Prop := ∀ k, i ≤ k → k ≤ q → ¬ w k = none → ∃ j, upD D j i k
theorem TI.go {D : List IT} {i q : Nat} {w : Nat → Option Nat} (h : TI D i q w) (hi : i < nx D i) : TI D (nx D i) q w ∧ ∀ k, i < k → k < nx D i → k ≤ q → w k = none := by
  constructor
  · intro k k1 k2 k3
    obtain ⟨j, hj⟩ := h k (by omega) k2 k3
    cases j with
    | zero =>
      have hj : i = k := hj
      omega
    | succ j => exact ⟨j, hj.2⟩
  · intro k k1 k2 k3
    cases hw : w k with
    | none => rfl
    | some x =>
      exfalso
      obtain ⟨j, hj⟩ := h k (by omega) k3 (by rw [hw]; intro z; cases z)
      cases j with
      | zero =>
        have hj : i = k := hj
        omega
      | succ j =>
        have := upD.le hj.2
        omega
theorem TI.up {D : List IT} {i q k : Nat} {w : Nat → Option Nat} (h : TI D i q w) (hk : ∃ j, upD D j i k) (o : Option Nat) : TI D i q (upM w k o) := by
  intro x x1 x2 x3
  unfold upM at x3
  by_cases c : x = k
  · rw [c]; exact hk
  · rw [if_neg c] at x3
    exact h x x1 x2 x3
/-- a level of the pass as the class holds it -/
def LVs (l i q : Nat) (out : Option Nat) (st : gW) (m : yM) : Prop := m.1 45 7 = nI l ∧ W46 l i q st.1 m ∧ (0 < l → AB 1000000000001 (st.2.1.map (· + 1)) (m.2 50 l) ∧ ∃ t, out = some t ∧ m.1 48 l = nI t) ∧ (l = 0 → out = none) ∧ AB 1000000000001 (st.2.2.map (· + ofL l)) (m.2 51 l)
def KLv (l q : Nat) (m m' : yM) : Prop := (∀ a i, ¬ a = 45 → ¬ a = 48 → ¬ a = 49 → m'.1 a i = m.1 a i) ∧ (∀ i, ¬ i = 7 → m'.1 45 i = m.1 45 i) ∧ (∀ j, j ≤ l → m'.1 48 j = m.1 48 j ∧ m'.1 49 j = m.1 49 j ∧ m'.2 47 j = m.2 47 j) ∧ (∀ j, j < l → m'.2 50 j = m.2 50 j ∧ m'.2 51 j = m.2 51 j) ∧ (∀ a, ¬ a = 46 → ¬ a = 47 → ¬ a = 50 → ¬ a = 51 → m'.2 a = m.2 a) ∧ ∀ k, q < k → m'.2 46 k = m.2 46 k
theorem KLv.re (l q : Nat) (m : yM) : KLv l q m m := ⟨fun _ _ _ _ _ => rfl, fun _ _ => rfl, fun _ _ => ⟨rfl, rfl, rfl⟩, fun _ _ => ⟨rfl, rfl⟩, fun _ _ _ _ _ => rfl, fun _ _ => rfl⟩
theorem KLv.tr {l l' q q' : Nat} {m m1 m2 : yM} (h : KLv l q m m1) (h2 : KLv l' q' m1 m2) (hl : l ≤ l') (hq : q' ≤ q) : KLv l q m m2 := by
  obtain ⟨a1, a2, a3, a4, a5, a6⟩ := h
  obtain ⟨b1, b2, b3, b4, b5, b6⟩ := h2
  refine ⟨fun a i x y z => (b1 a i x y z).trans (a1 a i x y z), fun i x => (b2 i x).trans (a2 i x), fun j hj => ?_, fun j hj => ?_, fun a x y z w => (b5 a x y z w).trans (a5 a x y z w), fun k hk => (b6 k (by omega)).trans (a6 k hk)⟩
  · obtain ⟨x, y, z⟩ := a3 j hj
    obtain ⟨x', y', z'⟩ := b3 j (by omega)
    exact ⟨x'.trans x, y'.trans y, z'.trans z⟩
  · obtain ⟨x, y⟩ := a4 j hj
    obtain ⟨x', y'⟩ := b4 j (by omega)
    exact ⟨x'.trans x, y'.trans y⟩
theorem KLv.s46 (l q : Nat) (m : yM) {k : Nat} (hk : k ≤ q) (v : Int64) : KLv l q m (y_sl m 46 k v) := ⟨fun _ _ _ _ _ => rfl, fun _ _ => rfl, fun j _ => ⟨rfl, rfl, by rw [y_sl_at, if_neg (by omega)]⟩, fun j _ => ⟨by rw [y_sl_at, if_neg (by omega)], by rw [y_sl_at, if_neg (by omega)]⟩, fun a x _ _ _ => funext fun j => by rw [y_sl_at, if_neg (fun z => x z.1)], fun j hj => by rw [y_sl_at, if_neg (by omega)]⟩
theorem KLv.s50 (l q : Nat) (m : yM) (v : Int64) : KLv l q m (y_sl m 50 l v) := ⟨fun _ _ _ _ _ => rfl, fun _ _ => rfl, fun j _ => ⟨rfl, rfl, by rw [y_sl_at, if_neg (by omega)]⟩, fun j _ => ⟨by rw [y_sl_at, if_neg (by omega)], by rw [y_sl_at, if_neg (by omega)]⟩, fun a _ _ x _ => funext fun j => by rw [y_sl_at, if_neg (fun z => x z.1)], fun j hj => by rw [y_sl_at, if_neg (by omega)]⟩
theorem KLv.s51 (l q : Nat) (m : yM) (v : Int64) : KLv l q m (y_sl m 51 l v) := ⟨fun _ _ _ _ _ => rfl, fun _ _ => rfl, fun j _ => ⟨rfl, rfl, by rw [y_sl_at, if_neg (by omega)]⟩, fun j _ => ⟨by rw [y_sl_at, if_neg (by omega)], by rw [y_sl_at, if_neg (by omega)]⟩, fun a _ _ _ x => funext fun j => by rw [y_sl_at, if_neg (fun z => x z.1)], fun j hj => by rw [y_sl_at, if_neg (by omega)]⟩
/-- what the pass needs of the code -/
def CC (D : List IT) (S U : Nat) (B : Nat → Int) (m : yM) : Prop := (∀ i x, D[i]? = some x → m.1 36 (S + i) = x.1 ∧ m.1 37 (S + i) = x.2.1 ∧ m.1 38 (S + i) = x.2.2.1) ∧ ∀ x, x < U → (m.1 41 x).toInt = B x
theorem CC.k {D : List IT} {S U l q : Nat} {B : Nat → Int} {m m' : yM} (h : CC D S U B m) (k : KLv l q m m') : CC D S U B m' := by
  refine ⟨fun i x hx => ?_, fun x hx => ?_⟩
  · rw [k.1 36 _ (by omega) (by omega) (by omega), k.1 37 _ (by omega) (by omega) (by omega), k.1 38 _ (by omega) (by omega) (by omega)]
    exact h.1 i x hx
  · rw [k.1 41 _ (by omega) (by omega) (by omega)]
    exact h.2 x hx
/-- an instruction that begins and ends no loop -/
theorem c229 (xs : List Int32) (d : Nat) {D : List IT} {S U N l i q dd : Nat} {B : Nat → Int} {cs : Nat → Nat} {inn : Nat → Nat → o3} {out : Option Nat} {st : gW} {m : yM} (hD : D.length ≤ 3000) (hU : U ≤ 16) (hcs : CSt D U cs B) (hq : q ≤ D.length) (hi : i < q) (hl : l ≤ 61) (ok : okI D U (RL D U N) out q i) (hout : ∀ t, out = some t → t = q + 1 ∧ t ≤ D.length) (o13 : ¬ (D.getD i dIT).1 = 13) (hc : CC D S U B m) (h : LVs l i q out st m) (hT : TI D i q st.1) (hdd : st.1 i = some dd) : yC (xg xs) (d + 2) 229 [.ref 45, .int (nI i), .int (D.getD i dIT).1, .int (D.getD i dIT).2.1] m (fun r m' => r = none ∧ LVs l (i + 1) q out (gSt D cs inn q i st) m' ∧ TI D (i + 1) q (gSt D cs inn q i st).1 ∧ KLv l q m m') := by
  obtain ⟨h1, h2, h3, h4, h5⟩ := h
  obtain ⟨k14, k1516, k10, k11, -⟩ := ok
  obtain ⟨c1, c2⟩ := hcs.1 i (by omega)
  have en : nx D i = i + 1 := by unfold nx; rw [if_neg o13]
  have hT1 := (hT.go (by omega)).1
  rw [en] at hT1
  have vi := h2 i (Nat.le_refl _) (by omega)
  rw [hdd] at vi
  have vi : AB 1000000000000 (some (dd + ofL l)) (m.2 46 i) := vi
  have kp0 := vi.1
  have kp1 := vi.2.1
  have stE : gSt D cs inn q i st = (if (D.getD i dIT).1 = 18 then (st.1, st.2.1, omx st.2.2 (some (dd + cs i)))
      else if (D.getD i dIT).1 = 10 then (if q < ((D.getD i dIT).2.1).toNatClampNeg then (st.1, omx st.2.1 (some (dd + cs i)), st.2.2) else (upM st.1 ((D.getD i dIT).2.1).toNatClampNeg (some (dd + cs i)), st.2.1, st.2.2))
      else if (D.getD i dIT).1 = 11 then (upM (upM st.1 (i + 1) (some (dd + cs i))) ((D.getD i dIT).2.1).toNatClampNeg (some (dd + cs i)), st.2.1, st.2.2)
      else (upM st.1 (i + 1) (some (dd + cs i)), st.2.1, st.2.2)) := by
    unfold gSt
    rw [hdd]
    dsimp only
    rw [if_neg o13]
  have up1 : ∃ j, upD D j (i + 1) (i + 1) := ⟨0, rfl⟩
  generalize D.getD i dIT = x at *
  generalize hkp : m.2 46 i = kp at *
  generalize hcc : cs i = cc at *
  have o1 : (1 : Int64).toInt = 1 := rfl
  have g1 := l_add (x := kp) (y := 1) (by omega) (by omega) (by decide) (by decide)
  have ci : (nI i).toNatClampNeg = i := nI_clamp (by omega)
  have cl : (nI l).toNatClampNeg = l := nI_clamp (by omega)
  have xl : x_in (nI l) 62 = true := x_in_nI (by omega) (by decide)
  have now : ¬ (x.1 = 15 ∨ x.1 = 16) → AB 1000000000001 (some (dd + cc + ofL l)) (kp + 1) := by
    intro z
    have e := c2 z
    have := vi.ad 1 (z := kp + 1) (by omega)
    rw [show dd + cc + ofL l = dd + ofL l + 1 by omega]
    exact this
  have l48 : 0 < l → ∃ t, out = some t ∧ m.1 48 l = nI t := fun z => (h3 z).2
  -- an instruction goes on
  have fin : ∀ (w : Nat → Option Nat) (m2 : yM), W46 l (i + 1) q w m2 → TI D (i + 1) q w → KLv l q m m2 → m2.1 = m.1 → m2.2 50 = m.2 50 → m2.2 51 = m.2 51 → gSt D cs inn q i st = (w, st.2.1, st.2.2) → LVs l (i + 1) q out (gSt D cs inn q i st) m2 ∧ TI D (i + 1) q (gSt D cs inn q i st).1 ∧ KLv l q m m2 := by
    intro w m2 w2 t2 k2 e1 e2 e3 e4
    rw [e4]
    refine ⟨⟨by rw [e1]; exact h1, w2, fun z => ?_, h4, by rw [e3]; exact h5⟩, t2, k2⟩
    rw [e1, e2]
    exact h3 z
  have w1 : W46 l (i + 1) q st.1 m := h2.mo (by omega)
  -- row 169
  have s169 : ∀ (w : Nat → Option Nat) (m2 : yM) (v : Int64) (M : Nat), W46 l (i + 1) q w m2 → TI D (i + 1) q w → KLv l q m m2 → m2.1 = m.1 → m2.2 50 = m.2 50 → m2.2 51 = m.2 51 → AB M (some (dd + cc + ofL l)) v → gSt D cs inn q i st = (upM w (i + 1) (some (dd + cc)), st.2.1, st.2.2) → yP (xg xs) (d + 2) 229 169 [] [.long v, .int (nI (i + 1)), .ref 45] m2 (fun r m' => r = none ∧ LVs l (i + 1) q out (gSt D cs inn q i st) m' ∧ TI D (i + 1) q (gSt D cs inn q i st).1 ∧ KLv l q m m') := by
    intro w m2 v M w2 t2 k2 e1 e2 e3 hv e4
    refine w229_169 xs (d + 1) _ _ m2 _ (y_cv (c224 xs d m2 (show i + 1 ≤ 3000 by omega) v) (by omega) ⟨rfl, ?_⟩)
    refine fin _ _ (w2.come (Nat.le_refl _) (by omega) hv) (t2.up up1 _) (k2.tr (KLv.s46 l q m2 (by omega) _) (Nat.le_refl _) (Nat.le_refl _)) e1 ?_ ?_ e4
    · rw [← e2]; exact funext fun j => by rw [y_sl_at, if_neg (by omega)]
    · rw [← e3]; exact funext fun j => by rw [y_sl_at, if_neg (by omega)]
  have s123 : ∀ (w : Nat → Option Nat) (m2 : yM), W46 l (i + 1) q w m2 → TI D (i + 1) q w → KLv l q m m2 → m2.1 = m.1 → m2.2 50 = m.2 50 → m2.2 51 = m.2 51 → gSt D cs inn q i st = (upM w (i + 1) (some (dd + cc)), st.2.1, st.2.2) → yP (xg xs) (d + 2) 229 123 [(0, .ref 45), (1, .int (nI i)), (2, .int x.1), (3, .int x.2.1), (4, .long (kp + 1))] [] m2 (fun r m' => r = none ∧ LVs l (i + 1) q out (gSt D cs inn q i st) m' ∧ TI D (i + 1) q (gSt D cs inn q i st).1 ∧ KLv l q m m') := by
    intro w m2 w2 t2 k2 e1 e2 e3 e4
    have s135 : (x.1 = 15 ∨ x.1 = 16) → yP (xg xs) (d + 2) 229 135 [(0, .ref 45), (1, .int (nI i)), (3, .int x.2.1), (4, .long (kp + 1))] [] m2 (fun r m' => r = none ∧ LVs l (i + 1) q out (gSt D cs inn q i st) m' ∧ TI D (i + 1) q (gSt D cs inn q i st).1 ∧ KLv l q m m') := by
      intro z
      obtain ⟨b', b1, b2⟩ := k1516 z
      have f1 := c1 z b' b1 b2
      have f2 := hcs.2 b' b1
      have f3 : (m2.1 41 b').toInt = B b' := by rw [e1]; exact hc.2 b' b1
      have f4 : ((m2.1 41 b').toInt64).toInt = B b' := by rw [i64_r]; exact f3
      have g2 := l_add (x := kp + 1) (y := (m2.1 41 b').toInt64) (by omega) (by omega) (by omega) (by omega)
      refine w229_135 xs (d + 1) _ _ _ m2 _ (w229_140 xs (d + 1) _ _ _ _ m2 _ ⟨fun z => absurd z (by decide), fun _ => ?_⟩)
      rw [b2, nI_clamp (by omega), nI_1]
      refine ⟨x_in_nI (by omega) (by decide), s169 w m2 _ (1000000000000 + cc) w2 t2 k2 e1 e2 e3 ?_ e4⟩
      have := vi.ad cc (z := kp + 1 + (m2.1 41 b').toInt64) (by omega)
      rw [show dd + cc + ofL l = dd + ofL l + cc by omega]
      exact this
    refine w229_123 xs (d + 1) _ _ _ _ m2 _ ⟨fun z => s135 (Or.inl z), fun z => ⟨fun z2 => ?_, fun z2 => s135 (Or.inr z2)⟩⟩
    refine w229_140 xs (d + 1) _ _ _ _ m2 _ ⟨fun _ => ?_, fun z => absurd rfl z⟩
    rw [nI_1]
    exact s169 w m2 _ _ w2 t2 k2 e1 e2 e3 (now (fun w => w.elim z z2)) e4
  have n1516 : ∀ k : Int32, x.1 = k → ¬ k = 15 → ¬ k = 16 → ¬ (x.1 = 15 ∨ x.1 = 16) := fun k e a b z => by
    rw [e] at z
    exact z.elim a b
  -- row 94
  have s94 : (x.1 = 10 → ∃ t, x.2.1 = nI t ∧ i + 1 ≤ t ∧ t ≤ q ∧ ∃ j, upD D j (i + 1) t) → ¬ x.1 = 18 → yP (xg xs) (d + 2) 229 94 [(0, .ref 45), (1, .int (nI i)), (2, .int x.1), (3, .int x.2.1), (4, .long (kp + 1))] [] m (fun r m' => r = none ∧ LVs l (i + 1) q out (gSt D cs inn q i st) m' ∧ TI D (i + 1) q (gSt D cs inn q i st).1 ∧ KLv l q m m') := by
    intro h10 z18
    refine w229_94 xs (d + 1) _ _ _ _ m _ ⟨fun z10 => ⟨fun z11 => ?_, fun z11 => ?_⟩, fun z10 => ?_⟩
    · exact s123 st.1 m w1 hT1 (KLv.re l q m) rfl rfl rfl (by rw [stE, if_neg z18, if_neg z10, if_neg z11])
    · obtain ⟨t, t1, t2, t3, t4⟩ := k11 z11
      rw [t1]
      refine y_cv (c224 xs d m (show t ≤ 3000 by omega) _) (by omega) ?_
      rw [← t1]
      have hv := now (n1516 11 z11 (by decide) (by decide))
      refine s123 (upM st.1 t (some (dd + cc))) _ (w1.come t2 t3 hv) (hT1.up t4 _) (KLv.s46 l q m t3 _) rfl ?_ ?_ ?_
      · exact funext fun j => by rw [y_sl_at, if_neg (by omega)]
      · exact funext fun j => by rw [y_sl_at, if_neg (by omega)]
      · rw [stE, if_neg z18, if_neg z10, if_pos z11, t1, nI_clamp (by omega)]
        congr 1
        funext j
        unfold upM
        by_cases c : j = t
        · by_cases c2 : j = i + 1
          · rw [if_pos c, if_pos c2, if_pos c2, if_pos c]
          · rw [if_pos c, if_neg c2, if_neg c2, if_pos c]
        · by_cases c2 : j = i + 1
          · rw [if_neg c, if_pos c2, if_pos c2, if_neg c]
          · rw [if_neg c, if_neg c2, if_neg c2, if_neg c]
    · obtain ⟨t, t1, t2, t3, t4⟩ := h10 z10
      have ct : (x.2.1).toNatClampNeg = t := by rw [t1]; exact nI_clamp (by omega)
      have hv := now (n1516 10 z10 (by decide) (by decide))
      rw [t1]
      refine y_cv (c224 xs d m (show t ≤ 3000 by omega) _) (by omega) ⟨rfl, ?_⟩
      refine fin _ _ (w1.come t2 t3 hv) (hT1.up t4 _) (KLv.s46 l q m t3 _) rfl ?_ ?_ ?_
      · exact funext fun j => by rw [y_sl_at, if_neg (by omega)]
      · exact funext fun j => by rw [y_sl_at, if_neg (by omega)]
      · rw [stE, if_neg z18, if_pos z10, ct, if_neg (by omega)]
  refine w229_0 xs (d + 1) _ _ _ m _ ?_
  rw [ci, hkp, h1, cl]
  refine ⟨x_in_nI (by omega) (by decide), fun z18 => ⟨fun z10 => s94 (fun z => absurd z z10) z18, fun z10 => ?_⟩, fun z18 => ⟨xl, xl, rfl, ?_⟩⟩
  · obtain ⟨t, t1, t2⟩ := k10 z10
    rcases t2 with w | w
    · obtain ⟨w1', w2'⟩ := hout t w
      have l0 : 0 < l := by
        rcases Nat.eq_zero_or_pos l with y | y
        · rw [h4 y] at w; cases w
        · exact y
      obtain ⟨t', y1, y2⟩ := l48 l0
      rw [w] at y1
      have ett := Option.some.inj y1
      have e48 : m.1 48 l = nI t := by rw [y2, ← ett]
      have ct : (x.2.1).toNatClampNeg = t := by rw [t1]; exact nI_clamp (by omega)
      rw [e48]
      refine ⟨fun z => ?_, fun _ => ⟨xl, fun z => absurd t1 z, fun _ => ⟨xl, xl, rfl, ?_⟩⟩⟩
      · have := (nI_leI (b := 0) (by omega) (by omega)).mp z
        omega
      · have eg : gSt D cs inn q i st = (st.1, omx st.2.1 (some (dd + cc)), st.2.2) := by rw [stE, if_neg z18, if_pos z10, ct, if_pos (by omega)]
        rw [eg]
        have hv := now (n1516 10 z10 (by decide) (by decide))
        have ol : ofL l = 1 := by unfold ofL; rw [if_neg (by omega)]
        refine ⟨⟨h1, w1.cg (fun k _ _ => by rw [y_sl_at, if_neg (by omega)]), fun _ => ⟨?_, t, w, e48⟩, h4, by rw [y_sl_at, if_neg (by omega)]; exact h5⟩, hT1, KLv.s50 l q m _⟩
        rw [y_sl_same, omx_m]
        rw [ol] at hv
        exact (h3 l0).1.mx hv (mxV_i _ _)
    · have tt : ∃ t, x.2.1 = nI t ∧ i + 1 ≤ t ∧ t ≤ q ∧ ∃ j, upD D j (i + 1) t := ⟨t, t1, w.1, w.2.1, w.2.2⟩
      refine ⟨fun _ => s94 (fun _ => tt) z18, fun zl => ⟨xl, fun _ => s94 (fun _ => tt) z18, fun z => ?_⟩⟩
      exfalso
      have l0 : 0 < l := by
        rcases Nat.eq_zero_or_pos l with y | y
        · rw [y] at zl; exact absurd (by decide) zl
        · exact y
      obtain ⟨t', y1, y2⟩ := l48 l0
      have := (hout t' y1)
      rw [y2, t1] at z
      have := (nI_eq (by have := w.2.1; omega) (by omega)).mp z
      have := w.2.1
      omega
  · have eg : gSt D cs inn q i st = (st.1, st.2.1, omx st.2.2 (some (dd + cc))) := by rw [stE, if_pos z18]
    rw [eg]
    have hv := now (n1516 18 z18 (by decide) (by decide))
    refine ⟨⟨h1, w1.cg (fun k _ _ => by rw [y_sl_at, if_neg (by omega)]), fun z => ?_, h4, ?_⟩, hT1, KLv.s51 l q m _⟩
    · rw [y_sl_at, if_neg (by omega)]
      exact h3 z
    · rw [y_sl_same, omx_m]
      exact h5.mx hv (mxV_i _ _)
