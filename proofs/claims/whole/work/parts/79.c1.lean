/-! MEASURE: how many steps -/
/-- a number of steps, as a long holds it that is no greater than M -/
def AB (M : Nat) (o : Option Nat) (v : Int64) : Prop := match o with
  | none => v.toInt = -1
  | some t => 0 ≤ v.toInt ∧ v.toInt ≤ M ∧ (t < 2000000000 → v.toInt = t) ∧ (2000000000 ≤ t → 2000000000 ≤ v.toInt)
def omx : Option Nat → Option Nat → Option Nat
  | none, b => b
  | some a, none => some a
  | some a, some b => some (max a b)
theorem omx_n (a : Option Nat) : omx a none = a := by cases a <;> rfl
theorem AB.mx {M : Nat} {a b : Option Nat} {x y z : Int64} (ha : AB M a x) (hb : AB M b y) (hz : z.toInt = max x.toInt y.toInt) : AB M (omx a b) z := by
  cases a with
  | none =>
    have ha : x.toInt = -1 := ha
    cases b with
    | none =>
      have hb : y.toInt = -1 := hb
      show z.toInt = -1
      omega
    | some b =>
      obtain ⟨b1, b2, b3, b4⟩ := hb
      exact ⟨by omega, by omega, fun w => by have := b3 w; omega, fun w => by have := b4 w; omega⟩
  | some a =>
    obtain ⟨a1, a2, a3, a4⟩ := ha
    cases b with
    | none =>
      have hb : y.toInt = -1 := hb
      exact ⟨by omega, by omega, fun w => by have := a3 w; omega, fun w => by have := a4 w; omega⟩
    | some b =>
      obtain ⟨b1, b2, b3, b4⟩ := hb
      refine ⟨by omega, by omega, fun w => ?_, fun w => ?_⟩
      · have := a3 (by omega)
        have := b3 (by omega)
        omega
      · by_cases c : 2000000000 ≤ a
        · have := a4 c; omega
        · have := b4 (by omega); omega
theorem AB.add {M M' a b : Nat} {x y z : Int64} (ha : AB M (some a) x) (hb : AB M' (some b) y) (hz : z.toInt = x.toInt + y.toInt) : AB (M + M') (some (a + b)) z := by
  obtain ⟨a1, a2, a3, a4⟩ := ha
  obtain ⟨b1, b2, b3, b4⟩ := hb
  refine ⟨by omega, by omega, fun w => ?_, fun w => ?_⟩
  · have := a3 (by omega)
    have := b3 (by omega)
    omega
  · by_cases c : 2000000000 ≤ a
    · have := a4 c; omega
    · by_cases c2 : 2000000000 ≤ b
      · have := b4 c2; omega
      · have := a3 (by omega)
        have := b3 (by omega)
        omega
theorem AB.ad {M a : Nat} {x z : Int64} (ha : AB M (some a) x) (c : Nat) (hz : z.toInt = x.toInt + c) : AB (M + c) (some (a + c)) z := by
  obtain ⟨a1, a2, a3, a4⟩ := ha
  refine ⟨by omega, by omega, fun w => ?_, fun w => ?_⟩
  · have := a3 (by omega)
    omega
  · by_cases k : 2000000000 ≤ a
    · have := a4 k; omega
    · have := a3 (by omega)
      omega
theorem AB.mul {M a k : Nat} {x z : Int64} (ha : AB M (some a) x) (hz : z.toInt = k * x.toInt) : AB (k * M) (some (k * a)) z := by
  obtain ⟨a1, a2, a3, a4⟩ := ha
  have up : (k : Int) * x.toInt ≤ k * M := Int.mul_le_mul_of_nonneg_left a2 (Int.natCast_nonneg k)
  have lo : 0 ≤ (k : Int) * x.toInt := Int.mul_nonneg (Int.natCast_nonneg k) a1
  refine ⟨by omega, by rw [hz, Int.natCast_mul]; exact up, fun w => ?_, fun w => ?_⟩
  · by_cases c : a < 2000000000
    · rw [hz, a3 c, Int.natCast_mul]
    · cases k with
      | zero => rw [hz]; simp
      | succ k =>
        exfalso
        rw [Nat.succ_mul] at w
        omega
  · cases k with
    | zero => omega
    | succ k =>
      by_cases c : a < 2000000000
      · rw [hz, a3 c]
        have : (((k + 1) * a : Nat) : Int) = ((k + 1 : Nat) : Int) * a := Int.natCast_mul _ _
        rw [← this]
        omega
      · have := a4 (by omega)
        have e : ((k + 1 : Nat) : Int) * x.toInt = k * x.toInt + x.toInt := by
          show ((k : Int) + 1) * x.toInt = _
          rw [Int.add_mul, Int.one_mul]
        have p : 0 ≤ (k : Int) * x.toInt := Int.mul_nonneg (Int.natCast_nonneg k) a1
        omega
theorem AB.cap {M C a : Nat} {x z : Int64} (ha : AB M (some a) x) (hC : 2000000000 ≤ C) (hz : z.toInt = min x.toInt C) : AB C (some a) z := by
  obtain ⟨a1, a2, a3, a4⟩ := ha
  exact ⟨by omega, by omega, fun w => by have := a3 w; omega, fun w => by have := a4 w; omega⟩
theorem AB.con {t : Nat} {x : Int64} (h : x.toInt = t) : AB t (some t) x := ⟨by omega, by omega, fun _ => h, fun _ => by omega⟩
theorem AB.w {M M' : Nat} {o : Option Nat} {x : Int64} (h : AB M o x) (hM : M ≤ M') : AB M' o x := by
  cases o with
  | none => exact h
  | some t => exact ⟨h.1, by have := h.2.1; omega, h.2.2⟩
theorem AB.n1 {M : Nat} : AB M none (-1) := rfl
theorem AB.lt {M : Nat} {o : Option Nat} {x : Int64} (h : AB M o x) : (lg_cmp x 0 < 0 ↔ o = none) ∧ (lg_cmp x (-1) = 0 ↔ o = none) := by
  rw [lg_cmp_lt, lg_cmp_eq, Int64.lt_iff_toInt_lt, ← Int64.toInt_inj, show (0 : Int64).toInt = 0 from rfl, show (-1 : Int64).toInt = -1 from rfl]
  cases o with
  | none =>
    have h : x.toInt = -1 := h
    exact ⟨⟨fun _ => rfl, fun _ => by omega⟩, ⟨fun _ => rfl, fun _ => h⟩⟩
  | some t =>
    have := h.1
    exact ⟨⟨fun z => by omega, fun z => by cases z⟩, ⟨fun z => by omega, fun z => by cases z⟩⟩
/-- no sum leaves the longs -/
theorem l_add {x y : Int64} (h1 : -4000000000000000000 ≤ x.toInt) (h2 : x.toInt ≤ 4000000000000000000) (h3 : -4000000000000000000 ≤ y.toInt) (h4 : y.toInt ≤ 4000000000000000000) : (x + y).toInt = x.toInt + y.toInt := by
  rw [Int64.toInt_add, bm64 (by omega) (by omega)]
theorem l_mul {x y : Int64} {k : Nat} (hk : k ≤ 1000000) (h1 : x.toInt = k) (h3 : 0 ≤ y.toInt) (h4 : y.toInt ≤ 2000000000000) : (x * y).toInt = k * y.toInt := by
  have up : (k : Int) * y.toInt ≤ 1000000 * 2000000000000 := Int.mul_le_mul (by omega) h4 h3 (by omega)
  have lo : 0 ≤ (k : Int) * y.toInt := Int.mul_nonneg (Int.natCast_nonneg k) h3
  rw [Int64.toInt_mul, h1, bm64 (by omega) (by omega)]
/-- the pass: what each one is come to behind, and behind how many steps it is left, or ended -/
abbrev gW : Type := (Nat → Option Nat) × Option Nat × Option Nat
def upM (w : Nat → Option Nat) (k : Nat) (o : Option Nat) : Nat → Option Nat := fun j => if j = k then omx (w j) o else w j
/-- a loop that is come to behind d steps, n times: what is behind it, what is ended in it -/
def lpE (r : Option Nat × Option Nat × Option Nat) (n d : Nat) : Option Nat := if n = 0 then some (d + 1) else omx (r.1.map (fun e => d + n * (e + 2) + 1)) (r.2.1.map (fun x => d + (match r.1 with | some e => (n - 1) * (e + 2) | none => 0) + 1 + x))
def lpL (r : Option Nat × Option Nat × Option Nat) (n d : Nat) : Option Nat := if n = 0 then none else r.2.2.map (fun x => d + (match r.1 with | some e => (n - 1) * (e + 2) | none => 0) + 1 + x)
def gSt (D : List IT) (cs : Nat → Nat) (inn : Nat → Nat → Option Nat × Option Nat × Option Nat) (q i : Nat) (st : gW) : gW := match st.1 i with
  | none => st
  | some d => if (D.getD i dIT).1 = 13 then (upM st.1 (nx D i) (lpE (inn (i + 1) (nx D i - 1)) ((D.getD (i - 1) dIT).2.2.1).toNatClampNeg d), st.2.1, omx st.2.2 (lpL (inn (i + 1) (nx D i - 1)) ((D.getD (i - 1) dIT).2.2.1).toNatClampNeg d))
    else if (D.getD i dIT).1 = 18 then (st.1, st.2.1, omx st.2.2 (some (d + cs i)))
    else if (D.getD i dIT).1 = 10 then (if q < ((D.getD i dIT).2.1).toNatClampNeg then (st.1, omx st.2.1 (some (d + cs i)), st.2.2) else (upM st.1 ((D.getD i dIT).2.1).toNatClampNeg (some (d + cs i)), st.2.1, st.2.2))
    else if (D.getD i dIT).1 = 11 then (upM (upM st.1 (i + 1) (some (d + cs i))) ((D.getD i dIT).2.1).toNatClampNeg (some (d + cs i)), st.2.1, st.2.2)
    else (upM st.1 (i + 1) (some (d + cs i)), st.2.1, st.2.2)
def gI (D : List IT) (cs : Nat → Nat) (inn : Nat → Nat → Option Nat × Option Nat × Option Nat) (q : Nat) : Nat → Nat → gW → gW
  | 0 => fun _ st => st
  | k + 1 => fun i st => if i < q then gI D cs inn q k (nx D i) (gSt D cs inn q i st) else st
def gT (D : List IT) (cs : Nat → Nat) : Nat → Nat → Nat → Option Nat × Option Nat × Option Nat
  | 0 => fun _ _ => (none, none, none)
  | N + 1 => fun a q => ((gI D cs (gT D cs N) q (q - a) a (fun k => if k = a then some 0 else none, none, none)).1 q, (gI D cs (gT D cs N) q (q - a) a (fun k => if k = a then some 0 else none, none, none)).2.1, (gI D cs (gT D cs N) q (q - a) a (fun k => if k = a then some 0 else none, none, none)).2.2)
theorem gI_q (D : List IT) (cs : Nat → Nat) (inn : Nat → Nat → Option Nat × Option Nat × Option Nat) (q K : Nat) (st : gW) : gI D cs inn q K q st = st := by
  cases K with
  | zero => rfl
  | succ K =>
    show (if q < q then _ else st) = st
    rw [if_neg (Nat.lt_irrefl _)]
theorem gI_s (D : List IT) (cs : Nat → Nat) (inn : Nat → Nat → Option Nat × Option Nat × Option Nat) {q K i : Nat} (hi : i < q) (st : gW) : gI D cs inn q (K + 1) i st = gI D cs inn q K (nx D i) (gSt D cs inn q i st) := by
  show (if i < q then _ else st) = _
  rw [if_pos hi]
theorem LPk.adv {D : List IT} {U : Nat} {R : Nat → Nat → Prop} {out : Option Nat} {q i : Nat} (h : okI D U R out q i) (hi : i < q) (hq : q ≤ D.length) (hD : D.length ≤ 3000) : i < nx D i ∧ nx D i ≤ q := by
  unfold nx
  split
  · rename_i z
    obtain ⟨-, b, b1, b2, b3, -⟩ := h.2.2.2.2 z
    rw [b1, nI_clamp (by omega)]
    omega
  · omega
/-- what isn't come to isn't gone through -/
theorem gI_n (D : List IT) (cs : Nat → Nat) (inn : Nat → Nat → Option Nat × Option Nat × Option Nat) (q : Nat) : ∀ (K i : Nat) (ex le : Option Nat), gI D cs inn q K i (fun _ => none, ex, le) = (fun _ => none, ex, le)
  | 0, i, ex, le => rfl
  | K + 1, i, ex, le => by
    show (if i < q then gI D cs inn q K (nx D i) (gSt D cs inn q i (fun _ => none, ex, le)) else _) = _
    split
    · exact gI_n D cs inn q K _ ex le
    · rfl
