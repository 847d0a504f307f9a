/-! PINS: a port of a standard block, as the reference reads it; laid by wip/gen/amg3.py -/
/-- how many words stand before the bar -/
def brW (l : List Int32) : Nat → Nat → Int32 → Int32 → Int32
  | 0 => fun _ br _ => br
  | q + 1 => fun k br wd => if l.getD k 0 = 32 then (if l.getD k 0 = 124 then brW l q (k + 1) (wd + 1) (wd + 1) else brW l q (k + 1) br (wd + 1)) else (if l.getD k 0 = 124 then brW l q (k + 1) wd wd else brW l q (k + 1) br wd)
/-- the number behind word t -/
def pvW (l : List Int32) (t : Int32) : Nat → Nat → Int32 → Option Int32
  | 0 => fun _ _ => none
  | q + 1 => fun k n => if t < n then some (10 * (l.getD k 0 - 48) + l.getD (k + 1) 0 - 48) else if l.getD k 0 = 32 then pvW l t q (k + 1) (n + 1) else pvW l t q (k + 1) n
def pinV (l : List Int32) (ws : List (List Int32)) (w : List Int32) (o : Int32) : Int32 := if ixw w ws 0 = -1 then -1 else if o = (if ixw w ws 0 ≤ brW l (l.length - 1) 1 0 0 then 0 else 1) then (pvW l (ixw w ws 0) (l.length - 2) 1 0).getD 0 else -1
theorem ixw_c (w : List Int32) : ∀ (ws : List (List Int32)) (t : Nat), ixw w ws t = -1 ∨ ∃ i, i < ws.length ∧ ixw w ws t = nI (t + i) ∧ ws.getD i [] = w
  | [], t => Or.inl rfl
  | v :: ws, t => by
    have es : ixw w (v :: ws) t = if v = w then nI t else ixw w ws (t + 1) := rfl
    rw [es]
    by_cases e : v = w
    · rw [if_pos e]; exact Or.inr ⟨0, by simp, rfl, e⟩
    · rw [if_neg e]
      rcases ixw_c w ws (t + 1) with y | ⟨i, i1, i2, i3⟩
      · exact Or.inl y
      · exact Or.inr ⟨i + 1, by simp; omega, by rw [i2]; congr 1; omega, by simpa using i3⟩
/-- a word that is no name -/
def bdW (v : List Int32) : Bool := decide ((v.getD 0 0).toNatClampNeg < 65 ∨ 95 < (v.getD 0 0).toNatClampNeg)
theorem nmc.bd {w : List Int32} (h : nmc w) : ¬ bdW w = true := by
  obtain ⟨c, L, rfl, h1, h2, h3⟩ := h
  unfold bdW
  show ¬ decide ((nI c).toNatClampNeg < 65 ∨ 95 < (nI c).toNatClampNeg) = true
  have c9 : c < 256 := by rcases h1 with y | y | y <;> omega
  rw [nI_clamp (by omega)]
  intro q
  have q := of_decide_eq_true q
  rcases h1 with y | y | y
  · omega
  · omega
  · exact h2 y
theorem pv_ex {l : List Int32} {ws : List (List Int32)} {q : Nat} (h : (List.range ws.length).all (fun t => (pvW l (nI t) q 1 0).isSome || bdW (ws.getD t [])) = true) (t : Nat) (ht : t < ws.length) (hn : ¬ bdW (ws.getD t []) = true) : ∃ z, pvW l (nI t) q 1 0 = some z := by
  have := List.all_eq_true.mp h t (List.mem_range.mpr ht)
  rcases Bool.or_eq_true _ _ ▸ this with y | y
  · exact Option.isSome_iff_exists.mp y
  · exact absurd y hn
theorem c346_7 (xs : List Int32) (d : Nat) {m : yM} {Rs : List (List Int32)} (hR : NR m Rs) (ho : offs Rs Rs.length ≤ 8192) (hl8 : Rs.length ≤ 8192) {a : Nat} (ha : a < Rs.length) (hnm : nmc (Rs.getD a [])) {b : Int32} (hb : ∀ m, yC (xg xs) (d + 4) 347 [.int b] m (fun r m' => r = some (.retAddr 27) ∧ m' = m)) (o : Int32) : yC (xg xs) (d + 5) 346 [.ref 58, .int b, .int (nI a), .int o] m (fun r m' => r = some (.int (pinV xsb_7 ws7 (Rs.getD a []) o)) ∧ m' = m) := by
  have x3 := xl_7
  -- the end: the number that stands there
  have fin : ∀ (q k : Nat) (t n z : Int32), k + q + 1 = xsb_7.length → pvW xsb_7 t q k n = some z → yP (xg xs) (d + 5) 346 114 [(4, .retAddr 27), (5, .int t), (8, .int (nI k)), (9, .int n)] [] m (fun r m' => r = some (.int z) ∧ m' = m) := by
    intro q
    induction q with
    | zero => intro k t n z hk e; cases e
    | succ q ih =>
      intro k t n z hk e
      have e : (if t < n then some (10 * (xsb_7.getD k 0 - 48) + xsb_7.getD (k + 1) 0 - 48) else if xsb_7.getD k 0 = 32 then pvW xsb_7 t q (k + 1) (n + 1) else pvW xsb_7 t q (k + 1) n) = some z := e
      refine w346s7_114 xs (d + 4) _ _ _ m _ ⟨fun u => ?_, fun u => ?_⟩
      · rw [if_pos u] at e
        refine y_ci (c24_7 xs (d + 1) m k (by omega)) (by omega) ?_
        rw [nI_1]
        refine y_ci (c24_7 xs (d + 1) m (k + 1) (by omega)) (by omega) ⟨?_, rfl⟩
        rw [← Option.some.inj e]
      · rw [if_neg u] at e
        refine y_ci (c24_7 xs (d + 1) m k (by omega)) (by omega) ⟨fun w => w346s7_142 xs (d + 4) _ _ _ m _ ?_, fun w => w346s7_142 xs (d + 4) _ _ _ m _ ?_⟩
        · rw [if_neg w] at e
          rw [nI_1]
          exact ih (k + 1) t n z (by omega) e
        · rw [if_pos w] at e
          rw [nI_1]
          exact ih (k + 1) t (n + 1) z (by omega) e
  have bar : ∀ (q k : Nat) (br wd u : Int32), k + q = xsb_7.length → brW xsb_7 q k br wd = brW xsb_7 (xsb_7.length - 1) 1 0 0 → (u = -1 ∨ ∃ z, pvW xsb_7 u (xsb_7.length - 2) 1 0 = some z) → yP (xg xs) (d + 5) 346 24 [(3, .int o), (4, .retAddr 27), (5, .int u), (6, .int br), (7, .int wd), (8, .int (nI k))] [] m (fun r m' => r = some (.int (if u = -1 then -1 else if o = (if u ≤ brW xsb_7 (xsb_7.length - 1) 1 0 0 then 0 else 1) then (pvW xsb_7 u (xsb_7.length - 2) 1 0).getD 0 else -1)) ∧ m' = m) := by
    intro q
    induction q with
    | zero =>
      intro k br wd u hk e hu
      have e : br = brW xsb_7 (xsb_7.length - 1) 1 0 0 := e
      refine w346s7_24 xs (d + 4) _ _ _ _ _ m _ (y_ci (c22_7 xs (d + 3) m) (by omega) ⟨fun _ => ⟨fun w => ⟨by rw [if_pos w], rfl⟩, fun w => ?_⟩, fun z => absurd (nI_le (a := xsb_7.length) (b := k) (by omega) (by omega)) (by rw [x3]; exact z)⟩)
      rw [if_neg w, ← e]
      obtain ⟨z, hz⟩ := hu.resolve_left w
      have go : yP (xg xs) (d + 5) 346 114 [(4, .retAddr 27), (5, .int u), (8, .int (1 : Int32)), (9, .int (0 : Int32))] [] m (fun r m' => r = some (.int ((pvW xsb_7 u (xsb_7.length - 2) 1 0).getD 0)) ∧ m' = m) := by
        rw [hz]
        exact fin (xsb_7.length - 2) 1 u 0 z (by rw [x3]) hz
      refine ⟨fun y => w346s7_103 xs (d + 4) _ _ _ m _ ⟨fun g => ?_, fun g => ⟨?_, rfl⟩⟩, fun y => w346s7_103 xs (d + 4) _ _ _ m _ ⟨fun g => ?_, fun g => ⟨?_, rfl⟩⟩⟩
      · rw [if_pos y, if_pos g]; exact go
      · rw [if_pos y, if_neg g]
      · rw [if_neg y, if_pos g]; exact go
      · rw [if_neg y, if_neg g]
    | succ q ih =>
      intro k br wd u hk e hu
      have es : brW xsb_7 (q + 1) k br wd = if xsb_7.getD k 0 = 32 then (if xsb_7.getD k 0 = 124 then brW xsb_7 q (k + 1) (wd + 1) (wd + 1) else brW xsb_7 q (k + 1) br (wd + 1)) else (if xsb_7.getD k 0 = 124 then brW xsb_7 q (k + 1) wd wd else brW xsb_7 q (k + 1) br wd) := rfl
      rw [es] at e
      refine w346s7_24 xs (d + 4) _ _ _ _ _ m _ (y_ci (c22_7 xs (d + 3) m) (by omega) ⟨fun z => absurd z (by have y := nI_ge (a := k) (b := xsb_7.length) (by omega) (by omega); rw [x3] at y; exact y), fun _ => ?_⟩)
      refine y_ci (c24_7 xs (d + 1) m k (by omega)) (by omega) ⟨fun w => ?_, fun w => ?_⟩
      · rw [if_neg w] at e
        refine w346s7_55 xs (d + 4) _ _ _ _ _ m _ (y_ci (c24_7 xs (d + 1) m k (by omega)) (by omega) ⟨fun y => w346s7_76 xs (d + 4) _ _ _ _ _ m _ ?_, fun y => w346s7_76 xs (d + 4) _ _ _ _ _ m _ ?_⟩)
        · rw [if_neg y] at e
          rw [nI_1]
          exact ih (k + 1) _ _ u (by omega) e hu
        · rw [if_pos y] at e
          rw [nI_1]
          exact ih (k + 1) _ _ u (by omega) e hu
      · rw [if_pos w] at e
        refine w346s7_55 xs (d + 4) _ _ _ _ _ m _ (y_ci (c24_7 xs (d + 1) m k (by omega)) (by omega) ⟨fun y => w346s7_76 xs (d + 4) _ _ _ _ _ m _ ?_, fun y => w346s7_76 xs (d + 4) _ _ _ _ _ m _ ?_⟩)
        · rw [if_neg y] at e
          rw [nI_1]
          exact ih (k + 1) _ _ u (by omega) e hu
        · rw [if_pos y] at e
          rw [nI_1]
          exact ih (k + 1) _ _ u (by omega) e hu
  refine w346s7_0 xs (d + 4) _ _ _ m _ (yC.mono (Nat.le_refl _) (fun r m1 q => ?_) (hb m))
  obtain ⟨rfl, rfl⟩ := q
  refine ⟨rfl, y_ci (c325_7 xs d hR ho hl8 ha (hnm.no 32 (by decide) (by decide))) (by omega) ?_⟩
  refine bar (xsb_7.length - 1) 1 0 0 _ (by rw [x3]) rfl ?_
  have cs := ixw_c (Rs.getD a []) ws7 0
  rcases cs with y | ⟨t, t1, y, t3⟩
  · exact Or.inl y
  · right
    rw [y, Nat.zero_add]
    exact pv_ex (by decide +kernel) t t1 (by rw [t3]; exact hnm.bd)

theorem c346_8 (xs : List Int32) (d : Nat) {m : yM} {Rs : List (List Int32)} (hR : NR m Rs) (ho : offs Rs Rs.length ≤ 8192) (hl8 : Rs.length ≤ 8192) {a : Nat} (ha : a < Rs.length) (hnm : nmc (Rs.getD a [])) {b : Int32} (hb : ∀ m, yC (xg xs) (d + 4) 347 [.int b] m (fun r m' => r = some (.retAddr 28) ∧ m' = m)) (o : Int32) : yC (xg xs) (d + 5) 346 [.ref 58, .int b, .int (nI a), .int o] m (fun r m' => r = some (.int (pinV xsb_8 ws8 (Rs.getD a []) o)) ∧ m' = m) := by
  have x3 := xl_8
  -- the end: the number that stands there
  have fin : ∀ (q k : Nat) (t n z : Int32), k + q + 1 = xsb_8.length → pvW xsb_8 t q k n = some z → yP (xg xs) (d + 5) 346 114 [(4, .retAddr 28), (5, .int t), (8, .int (nI k)), (9, .int n)] [] m (fun r m' => r = some (.int z) ∧ m' = m) := by
    intro q
    induction q with
    | zero => intro k t n z hk e; cases e
    | succ q ih =>
      intro k t n z hk e
      have e : (if t < n then some (10 * (xsb_8.getD k 0 - 48) + xsb_8.getD (k + 1) 0 - 48) else if xsb_8.getD k 0 = 32 then pvW xsb_8 t q (k + 1) (n + 1) else pvW xsb_8 t q (k + 1) n) = some z := e
      refine w346s8_114 xs (d + 4) _ _ _ m _ ⟨fun u => ?_, fun u => ?_⟩
      · rw [if_pos u] at e
        refine y_ci (c24_8 xs (d + 1) m k (by omega)) (by omega) ?_
        rw [nI_1]
        refine y_ci (c24_8 xs (d + 1) m (k + 1) (by omega)) (by omega) ⟨?_, rfl⟩
        rw [← Option.some.inj e]
      · rw [if_neg u] at e
        refine y_ci (c24_8 xs (d + 1) m k (by omega)) (by omega) ⟨fun w => w346s8_142 xs (d + 4) _ _ _ m _ ?_, fun w => w346s8_142 xs (d + 4) _ _ _ m _ ?_⟩
        · rw [if_neg w] at e
          rw [nI_1]
          exact ih (k + 1) t n z (by omega) e
        · rw [if_pos w] at e
          rw [nI_1]
          exact ih (k + 1) t (n + 1) z (by omega) e
  have bar : ∀ (q k : Nat) (br wd u : Int32), k + q = xsb_8.length → brW xsb_8 q k br wd = brW xsb_8 (xsb_8.length - 1) 1 0 0 → (u = -1 ∨ ∃ z, pvW xsb_8 u (xsb_8.length - 2) 1 0 = some z) → yP (xg xs) (d + 5) 346 24 [(3, .int o), (4, .retAddr 28), (5, .int u), (6, .int br), (7, .int wd), (8, .int (nI k))] [] m (fun r m' => r = some (.int (if u = -1 then -1 else if o = (if u ≤ brW xsb_8 (xsb_8.length - 1) 1 0 0 then 0 else 1) then (pvW xsb_8 u (xsb_8.length - 2) 1 0).getD 0 else -1)) ∧ m' = m) := by
    intro q
    induction q with
    | zero =>
      intro k br wd u hk e hu
      have e : br = brW xsb_8 (xsb_8.length - 1) 1 0 0 := e
      refine w346s8_24 xs (d + 4) _ _ _ _ _ m _ (y_ci (c22_8 xs (d + 3) m) (by omega) ⟨fun _ => ⟨fun w => ⟨by rw [if_pos w], rfl⟩, fun w => ?_⟩, fun z => absurd (nI_le (a := xsb_8.length) (b := k) (by omega) (by omega)) (by rw [x3]; exact z)⟩)
      rw [if_neg w, ← e]
      obtain ⟨z, hz⟩ := hu.resolve_left w
      have go : yP (xg xs) (d + 5) 346 114 [(4, .retAddr 28), (5, .int u), (8, .int (1 : Int32)), (9, .int (0 : Int32))] [] m (fun r m' => r = some (.int ((pvW xsb_8 u (xsb_8.length - 2) 1 0).getD 0)) ∧ m' = m) := by
        rw [hz]
        exact fin (xsb_8.length - 2) 1 u 0 z (by rw [x3]) hz
      refine ⟨fun y => w346s8_103 xs (d + 4) _ _ _ m _ ⟨fun g => ?_, fun g => ⟨?_, rfl⟩⟩, fun y => w346s8_103 xs (d + 4) _ _ _ m _ ⟨fun g => ?_, fun g => ⟨?_, rfl⟩⟩⟩
      · rw [if_pos y, if_pos g]; exact go
      · rw [if_pos y, if_neg g]
      · rw [if_neg y, if_pos g]; exact go
      · rw [if_neg y, if_neg g]
    | succ q ih =>
      intro k br wd u hk e hu
      have es : brW xsb_8 (q + 1) k br wd = if xsb_8.getD k 0 = 32 then (if xsb_8.getD k 0 = 124 then brW xsb_8 q (k + 1) (wd + 1) (wd + 1) else brW xsb_8 q (k + 1) br (wd + 1)) else (if xsb_8.getD k 0 = 124 then brW xsb_8 q (k + 1) wd wd else brW xsb_8 q (k + 1) br wd) := rfl
      rw [es] at e
      refine w346s8_24 xs (d + 4) _ _ _ _ _ m _ (y_ci (c22_8 xs (d + 3) m) (by omega) ⟨fun z => absurd z (by have y := nI_ge (a := k) (b := xsb_8.length) (by omega) (by omega); rw [x3] at y; exact y), fun _ => ?_⟩)
      refine y_ci (c24_8 xs (d + 1) m k (by omega)) (by omega) ⟨fun w => ?_, fun w => ?_⟩
      · rw [if_neg w] at e
        refine w346s8_55 xs (d + 4) _ _ _ _ _ m _ (y_ci (c24_8 xs (d + 1) m k (by omega)) (by omega) ⟨fun y => w346s8_76 xs (d + 4) _ _ _ _ _ m _ ?_, fun y => w346s8_76 xs (d + 4) _ _ _ _ _ m _ ?_⟩)
        · rw [if_neg y] at e
          rw [nI_1]
          exact ih (k + 1) _ _ u (by omega) e hu
        · rw [if_pos y] at e
          rw [nI_1]
          exact ih (k + 1) _ _ u (by omega) e hu
      · rw [if_pos w] at e
        refine w346s8_55 xs (d + 4) _ _ _ _ _ m _ (y_ci (c24_8 xs (d + 1) m k (by omega)) (by omega) ⟨fun y => w346s8_76 xs (d + 4) _ _ _ _ _ m _ ?_, fun y => w346s8_76 xs (d + 4) _ _ _ _ _ m _ ?_⟩)
        · rw [if_neg y] at e
          rw [nI_1]
          exact ih (k + 1) _ _ u (by omega) e hu
        · rw [if_pos y] at e
          rw [nI_1]
          exact ih (k + 1) _ _ u (by omega) e hu
  refine w346s8_0 xs (d + 4) _ _ _ m _ (yC.mono (Nat.le_refl _) (fun r m1 q => ?_) (hb m))
  obtain ⟨rfl, rfl⟩ := q
  refine ⟨rfl, y_ci (c325_8 xs d hR ho hl8 ha (hnm.no 32 (by decide) (by decide))) (by omega) ?_⟩
  refine bar (xsb_8.length - 1) 1 0 0 _ (by rw [x3]) rfl ?_
  have cs := ixw_c (Rs.getD a []) ws8 0
  rcases cs with y | ⟨t, t1, y, t3⟩
  · exact Or.inl y
  · right
    rw [y, Nat.zero_add]
    exact pv_ex (by decide +kernel) t t1 (by rw [t3]; exact hnm.bd)

theorem c346_9 (xs : List Int32) (d : Nat) {m : yM} {Rs : List (List Int32)} (hR : NR m Rs) (ho : offs Rs Rs.length ≤ 8192) (hl8 : Rs.length ≤ 8192) {a : Nat} (ha : a < Rs.length) (hnm : nmc (Rs.getD a [])) {b : Int32} (hb : ∀ m, yC (xg xs) (d + 4) 347 [.int b] m (fun r m' => r = some (.retAddr 29) ∧ m' = m)) (o : Int32) : yC (xg xs) (d + 5) 346 [.ref 58, .int b, .int (nI a), .int o] m (fun r m' => r = some (.int (pinV xsb_9 ws9 (Rs.getD a []) o)) ∧ m' = m) := by
  have x3 := xl_9
  -- the end: the number that stands there
  have fin : ∀ (q k : Nat) (t n z : Int32), k + q + 1 = xsb_9.length → pvW xsb_9 t q k n = some z → yP (xg xs) (d + 5) 346 114 [(4, .retAddr 29), (5, .int t), (8, .int (nI k)), (9, .int n)] [] m (fun r m' => r = some (.int z) ∧ m' = m) := by
    intro q
    induction q with
    | zero => intro k t n z hk e; cases e
    | succ q ih =>
      intro k t n z hk e
      have e : (if t < n then some (10 * (xsb_9.getD k 0 - 48) + xsb_9.getD (k + 1) 0 - 48) else if xsb_9.getD k 0 = 32 then pvW xsb_9 t q (k + 1) (n + 1) else pvW xsb_9 t q (k + 1) n) = some z := e
      refine w346s9_114 xs (d + 4) _ _ _ m _ ⟨fun u => ?_, fun u => ?_⟩
      · rw [if_pos u] at e
        refine y_ci (c24_9 xs (d + 1) m k (by omega)) (by omega) ?_
        rw [nI_1]
        refine y_ci (c24_9 xs (d + 1) m (k + 1) (by omega)) (by omega) ⟨?_, rfl⟩
        rw [← Option.some.inj e]
      · rw [if_neg u] at e
        refine y_ci (c24_9 xs (d + 1) m k (by omega)) (by omega) ⟨fun w => w346s9_142 xs (d + 4) _ _ _ m _ ?_, fun w => w346s9_142 xs (d + 4) _ _ _ m _ ?_⟩
        · rw [if_neg w] at e
          rw [nI_1]
          exact ih (k + 1) t n z (by omega) e
        · rw [if_pos w] at e
          rw [nI_1]
          exact ih (k + 1) t (n + 1) z (by omega) e
  have bar : ∀ (q k : Nat) (br wd u : Int32), k + q = xsb_9.length → brW xsb_9 q k br wd = brW xsb_9 (xsb_9.length - 1) 1 0 0 → (u = -1 ∨ ∃ z, pvW xsb_9 u (xsb_9.length - 2) 1 0 = some z) → yP (xg xs) (d + 5) 346 24 [(3, .int o), (4, .retAddr 29), (5, .int u), (6, .int br), (7, .int wd), (8, .int (nI k))] [] m (fun r m' => r = some (.int (if u = -1 then -1 else if o = (if u ≤ brW xsb_9 (xsb_9.length - 1) 1 0 0 then 0 else 1) then (pvW xsb_9 u (xsb_9.length - 2) 1 0).getD 0 else -1)) ∧ m' = m) := by
    intro q
    induction q with
    | zero =>
      intro k br wd u hk e hu
      have e : br = brW xsb_9 (xsb_9.length - 1) 1 0 0 := e
      refine w346s9_24 xs (d + 4) _ _ _ _ _ m _ (y_ci (c22_9 xs (d + 3) m) (by omega) ⟨fun _ => ⟨fun w => ⟨by rw [if_pos w], rfl⟩, fun w => ?_⟩, fun z => absurd (nI_le (a := xsb_9.length) (b := k) (by omega) (by omega)) (by rw [x3]; exact z)⟩)
      rw [if_neg w, ← e]
      obtain ⟨z, hz⟩ := hu.resolve_left w
      have go : yP (xg xs) (d + 5) 346 114 [(4, .retAddr 29), (5, .int u), (8, .int (1 : Int32)), (9, .int (0 : Int32))] [] m (fun r m' => r = some (.int ((pvW xsb_9 u (xsb_9.length - 2) 1 0).getD 0)) ∧ m' = m) := by
        rw [hz]
        exact fin (xsb_9.length - 2) 1 u 0 z (by rw [x3]) hz
      refine ⟨fun y => w346s9_103 xs (d + 4) _ _ _ m _ ⟨fun g => ?_, fun g => ⟨?_, rfl⟩⟩, fun y => w346s9_103 xs (d + 4) _ _ _ m _ ⟨fun g => ?_, fun g => ⟨?_, rfl⟩⟩⟩
      · rw [if_pos y, if_pos g]; exact go
      · rw [if_pos y, if_neg g]
      · rw [if_neg y, if_pos g]; exact go
      · rw [if_neg y, if_neg g]
    | succ q ih =>
      intro k br wd u hk e hu
      have es : brW xsb_9 (q + 1) k br wd = if xsb_9.getD k 0 = 32 then (if xsb_9.getD k 0 = 124 then brW xsb_9 q (k + 1) (wd + 1) (wd + 1) else brW xsb_9 q (k + 1) br (wd + 1)) else (if xsb_9.getD k 0 = 124 then brW xsb_9 q (k + 1) wd wd else brW xsb_9 q (k + 1) br wd) := rfl
      rw [es] at e
      refine w346s9_24 xs (d + 4) _ _ _ _ _ m _ (y_ci (c22_9 xs (d + 3) m) (by omega) ⟨fun z => absurd z (by have y := nI_ge (a := k) (b := xsb_9.length) (by omega) (by omega); rw [x3] at y; exact y), fun _ => ?_⟩)
      refine y_ci (c24_9 xs (d + 1) m k (by omega)) (by omega) ⟨fun w => ?_, fun w => ?_⟩
      · rw [if_neg w] at e
        refine w346s9_55 xs (d + 4) _ _ _ _ _ m _ (y_ci (c24_9 xs (d + 1) m k (by omega)) (by omega) ⟨fun y => w346s9_76 xs (d + 4) _ _ _ _ _ m _ ?_, fun y => w346s9_76 xs (d + 4) _ _ _ _ _ m _ ?_⟩)
        · rw [if_neg y] at e
          rw [nI_1]
          exact ih (k + 1) _ _ u (by omega) e hu
        · rw [if_pos y] at e
          rw [nI_1]
          exact ih (k + 1) _ _ u (by omega) e hu
      · rw [if_pos w] at e
        refine w346s9_55 xs (d + 4) _ _ _ _ _ m _ (y_ci (c24_9 xs (d + 1) m k (by omega)) (by omega) ⟨fun y => w346s9_76 xs (d + 4) _ _ _ _ _ m _ ?_, fun y => w346s9_76 xs (d + 4) _ _ _ _ _ m _ ?_⟩)
        · rw [if_neg y] at e
          rw [nI_1]
          exact ih (k + 1) _ _ u (by omega) e hu
        · rw [if_pos y] at e
          rw [nI_1]
          exact ih (k + 1) _ _ u (by omega) e hu
  refine w346s9_0 xs (d + 4) _ _ _ m _ (yC.mono (Nat.le_refl _) (fun r m1 q => ?_) (hb m))
  obtain ⟨rfl, rfl⟩ := q
  refine ⟨rfl, y_ci (c325_9 xs d hR ho hl8 ha (hnm.no 32 (by decide) (by decide))) (by omega) ?_⟩
  refine bar (xsb_9.length - 1) 1 0 0 _ (by rw [x3]) rfl ?_
  have cs := ixw_c (Rs.getD a []) ws9 0
  rcases cs with y | ⟨t, t1, y, t3⟩
  · exact Or.inl y
  · right
    rw [y, Nat.zero_add]
    exact pv_ex (by decide +kernel) t t1 (by rw [t3]; exact hnm.bd)

theorem c346_10 (xs : List Int32) (d : Nat) {m : yM} {Rs : List (List Int32)} (hR : NR m Rs) (ho : offs Rs Rs.length ≤ 8192) (hl8 : Rs.length ≤ 8192) {a : Nat} (ha : a < Rs.length) (hnm : nmc (Rs.getD a [])) {b : Int32} (hb : ∀ m, yC (xg xs) (d + 4) 347 [.int b] m (fun r m' => r = some (.retAddr 30) ∧ m' = m)) (o : Int32) : yC (xg xs) (d + 5) 346 [.ref 58, .int b, .int (nI a), .int o] m (fun r m' => r = some (.int (pinV xsb_10 ws10 (Rs.getD a []) o)) ∧ m' = m) := by
  have x3 := xl_10
  -- the end: the number that stands there
  have fin : ∀ (q k : Nat) (t n z : Int32), k + q + 1 = xsb_10.length → pvW xsb_10 t q k n = some z → yP (xg xs) (d + 5) 346 114 [(4, .retAddr 30), (5, .int t), (8, .int (nI k)), (9, .int n)] [] m (fun r m' => r = some (.int z) ∧ m' = m) := by
    intro q
    induction q with
    | zero => intro k t n z hk e; cases e
    | succ q ih =>
      intro k t n z hk e
      have e : (if t < n then some (10 * (xsb_10.getD k 0 - 48) + xsb_10.getD (k + 1) 0 - 48) else if xsb_10.getD k 0 = 32 then pvW xsb_10 t q (k + 1) (n + 1) else pvW xsb_10 t q (k + 1) n) = some z := e
      refine w346s10_114 xs (d + 4) _ _ _ m _ ⟨fun u => ?_, fun u => ?_⟩
      · rw [if_pos u] at e
        refine y_ci (c24_10 xs (d + 1) m k (by omega)) (by omega) ?_
        rw [nI_1]
        refine y_ci (c24_10 xs (d + 1) m (k + 1) (by omega)) (by omega) ⟨?_, rfl⟩
        rw [← Option.some.inj e]
      · rw [if_neg u] at e
        refine y_ci (c24_10 xs (d + 1) m k (by omega)) (by omega) ⟨fun w => w346s10_142 xs (d + 4) _ _ _ m _ ?_, fun w => w346s10_142 xs (d + 4) _ _ _ m _ ?_⟩
        · rw [if_neg w] at e
          rw [nI_1]
          exact ih (k + 1) t n z (by omega) e
        · rw [if_pos w] at e
          rw [nI_1]
          exact ih (k + 1) t (n + 1) z (by omega) e
  have bar : ∀ (q k : Nat) (br wd u : Int32), k + q = xsb_10.length → brW xsb_10 q k br wd = brW xsb_10 (xsb_10.length - 1) 1 0 0 → (u = -1 ∨ ∃ z, pvW xsb_10 u (xsb_10.length - 2) 1 0 = some z) → yP (xg xs) (d + 5) 346 24 [(3, .int o), (4, .retAddr 30), (5, .int u), (6, .int br), (7, .int wd), (8, .int (nI k))] [] m (fun r m' => r = some (.int (if u = -1 then -1 else if o = (if u ≤ brW xsb_10 (xsb_10.length - 1) 1 0 0 then 0 else 1) then (pvW xsb_10 u (xsb_10.length - 2) 1 0).getD 0 else -1)) ∧ m' = m) := by
    intro q
    induction q with
    | zero =>
      intro k br wd u hk e hu
      have e : br = brW xsb_10 (xsb_10.length - 1) 1 0 0 := e
      refine w346s10_24 xs (d + 4) _ _ _ _ _ m _ (y_ci (c22_10 xs (d + 3) m) (by omega) ⟨fun _ => ⟨fun w => ⟨by rw [if_pos w], rfl⟩, fun w => ?_⟩, fun z => absurd (nI_le (a := xsb_10.length) (b := k) (by omega) (by omega)) (by rw [x3]; exact z)⟩)
      rw [if_neg w, ← e]
      obtain ⟨z, hz⟩ := hu.resolve_left w
      have go : yP (xg xs) (d + 5) 346 114 [(4, .retAddr 30), (5, .int u), (8, .int (1 : Int32)), (9, .int (0 : Int32))] [] m (fun r m' => r = some (.int ((pvW xsb_10 u (xsb_10.length - 2) 1 0).getD 0)) ∧ m' = m) := by
        rw [hz]
        exact fin (xsb_10.length - 2) 1 u 0 z (by rw [x3]) hz
      refine ⟨fun y => w346s10_103 xs (d + 4) _ _ _ m _ ⟨fun g => ?_, fun g => ⟨?_, rfl⟩⟩, fun y => w346s10_103 xs (d + 4) _ _ _ m _ ⟨fun g => ?_, fun g => ⟨?_, rfl⟩⟩⟩
      · rw [if_pos y, if_pos g]; exact go
      · rw [if_pos y, if_neg g]
      · rw [if_neg y, if_pos g]; exact go
      · rw [if_neg y, if_neg g]
    | succ q ih =>
      intro k br wd u hk e hu
      have es : brW xsb_10 (q + 1) k br wd = if xsb_10.getD k 0 = 32 then (if xsb_10.getD k 0 = 124 then brW xsb_10 q (k + 1) (wd + 1) (wd + 1) else brW xsb_10 q (k + 1) br (wd + 1)) else (if xsb_10.getD k 0 = 124 then brW xsb_10 q (k + 1) wd wd else brW xsb_10 q (k + 1) br wd) := rfl
      rw [es] at e
      refine w346s10_24 xs (d + 4) _ _ _ _ _ m _ (y_ci (c22_10 xs (d + 3) m) (by omega) ⟨fun z => absurd z (by have y := nI_ge (a := k) (b := xsb_10.length) (by omega) (by omega); rw [x3] at y; exact y), fun _ => ?_⟩)
      refine y_ci (c24_10 xs (d + 1) m k (by omega)) (by omega) ⟨fun w => ?_, fun w => ?_⟩
      · rw [if_neg w] at e
        refine w346s10_55 xs (d + 4) _ _ _ _ _ m _ (y_ci (c24_10 xs (d + 1) m k (by omega)) (by omega) ⟨fun y => w346s10_76 xs (d + 4) _ _ _ _ _ m _ ?_, fun y => w346s10_76 xs (d + 4) _ _ _ _ _ m _ ?_⟩)
        · rw [if_neg y] at e
          rw [nI_1]
          exact ih (k + 1) _ _ u (by omega) e hu
        · rw [if_pos y] at e
          rw [nI_1]
          exact ih (k + 1) _ _ u (by omega) e hu
      · rw [if_pos w] at e
        refine w346s10_55 xs (d + 4) _ _ _ _ _ m _ (y_ci (c24_10 xs (d + 1) m k (by omega)) (by omega) ⟨fun y => w346s10_76 xs (d + 4) _ _ _ _ _ m _ ?_, fun y => w346s10_76 xs (d + 4) _ _ _ _ _ m _ ?_⟩)
        · rw [if_neg y] at e
          rw [nI_1]
          exact ih (k + 1) _ _ u (by omega) e hu
        · rw [if_pos y] at e
          rw [nI_1]
          exact ih (k + 1) _ _ u (by omega) e hu
  refine w346s10_0 xs (d + 4) _ _ _ m _ (yC.mono (Nat.le_refl _) (fun r m1 q => ?_) (hb m))
  obtain ⟨rfl, rfl⟩ := q
  refine ⟨rfl, y_ci (c325_10 xs d hR ho hl8 ha (hnm.no 32 (by decide) (by decide))) (by omega) ?_⟩
  refine bar (xsb_10.length - 1) 1 0 0 _ (by rw [x3]) rfl ?_
  have cs := ixw_c (Rs.getD a []) ws10 0
  rcases cs with y | ⟨t, t1, y, t3⟩
  · exact Or.inl y
  · right
    rw [y, Nat.zero_add]
    exact pv_ex (by decide +kernel) t t1 (by rw [t3]; exact hnm.bd)

theorem c346_11 (xs : List Int32) (d : Nat) {m : yM} {Rs : List (List Int32)} (hR : NR m Rs) (ho : offs Rs Rs.length ≤ 8192) (hl8 : Rs.length ≤ 8192) {a : Nat} (ha : a < Rs.length) (hnm : nmc (Rs.getD a [])) {b : Int32} (hb : ∀ m, yC (xg xs) (d + 4) 347 [.int b] m (fun r m' => r = some (.retAddr 31) ∧ m' = m)) (o : Int32) : yC (xg xs) (d + 5) 346 [.ref 58, .int b, .int (nI a), .int o] m (fun r m' => r = some (.int (pinV xsb_11 ws11 (Rs.getD a []) o)) ∧ m' = m) := by
  have x3 := xl_11
  -- the end: the number that stands there
  have fin : ∀ (q k : Nat) (t n z : Int32), k + q + 1 = xsb_11.length → pvW xsb_11 t q k n = some z → yP (xg xs) (d + 5) 346 114 [(4, .retAddr 31), (5, .int t), (8, .int (nI k)), (9, .int n)] [] m (fun r m' => r = some (.int z) ∧ m' = m) := by
    intro q
    induction q with
    | zero => intro k t n z hk e; cases e
    | succ q ih =>
      intro k t n z hk e
      have e : (if t < n then some (10 * (xsb_11.getD k 0 - 48) + xsb_11.getD (k + 1) 0 - 48) else if xsb_11.getD k 0 = 32 then pvW xsb_11 t q (k + 1) (n + 1) else pvW xsb_11 t q (k + 1) n) = some z := e
      refine w346s11_114 xs (d + 4) _ _ _ m _ ⟨fun u => ?_, fun u => ?_⟩
      · rw [if_pos u] at e
        refine y_ci (c24_11 xs (d + 1) m k (by omega)) (by omega) ?_
        rw [nI_1]
        refine y_ci (c24_11 xs (d + 1) m (k + 1) (by omega)) (by omega) ⟨?_, rfl⟩
        rw [← Option.some.inj e]
      · rw [if_neg u] at e
        refine y_ci (c24_11 xs (d + 1) m k (by omega)) (by omega) ⟨fun w => w346s11_142 xs (d + 4) _ _ _ m _ ?_, fun w => w346s11_142 xs (d + 4) _ _ _ m _ ?_⟩
        · rw [if_neg w] at e
          rw [nI_1]
          exact ih (k + 1) t n z (by omega) e
        · rw [if_pos w] at e
          rw [nI_1]
          exact ih (k + 1) t (n + 1) z (by omega) e
  have bar : ∀ (q k : Nat) (br wd u : Int32), k + q = xsb_11.length → brW xsb_11 q k br wd = brW xsb_11 (xsb_11.length - 1) 1 0 0 → (u = -1 ∨ ∃ z, pvW xsb_11 u (xsb_11.length - 2) 1 0 = some z) → yP (xg xs) (d + 5) 346 24 [(3, .int o), (4, .retAddr 31), (5, .int u), (6, .int br), (7, .int wd), (8, .int (nI k))] [] m (fun r m' => r = some (.int (if u = -1 then -1 else if o = (if u ≤ brW xsb_11 (xsb_11.length - 1) 1 0 0 then 0 else 1) then (pvW xsb_11 u (xsb_11.length - 2) 1 0).getD 0 else -1)) ∧ m' = m) := by
    intro q
    induction q with
    | zero =>
      intro k br wd u hk e hu
      have e : br = brW xsb_11 (xsb_11.length - 1) 1 0 0 := e
      refine w346s11_24 xs (d + 4) _ _ _ _ _ m _ (y_ci (c22_11 xs (d + 3) m) (by omega) ⟨fun _ => ⟨fun w => ⟨by rw [if_pos w], rfl⟩, fun w => ?_⟩, fun z => absurd (nI_le (a := xsb_11.length) (b := k) (by omega) (by omega)) (by rw [x3]; exact z)⟩)
      rw [if_neg w, ← e]
      obtain ⟨z, hz⟩ := hu.resolve_left w
      have go : yP (xg xs) (d + 5) 346 114 [(4, .retAddr 31), (5, .int u), (8, .int (1 : Int32)), (9, .int (0 : Int32))] [] m (fun r m' => r = some (.int ((pvW xsb_11 u (xsb_11.length - 2) 1 0).getD 0)) ∧ m' = m) := by
        rw [hz]
        exact fin (xsb_11.length - 2) 1 u 0 z (by rw [x3]) hz
      refine ⟨fun y => w346s11_103 xs (d + 4) _ _ _ m _ ⟨fun g => ?_, fun g => ⟨?_, rfl⟩⟩, fun y => w346s11_103 xs (d + 4) _ _ _ m _ ⟨fun g => ?_, fun g => ⟨?_, rfl⟩⟩⟩
      · rw [if_pos y, if_pos g]; exact go
      · rw [if_pos y, if_neg g]
      · rw [if_neg y, if_pos g]; exact go
      · rw [if_neg y, if_neg g]
    | succ q ih =>
      intro k br wd u hk e hu
      have es : brW xsb_11 (q + 1) k br wd = if xsb_11.getD k 0 = 32 then (if xsb_11.getD k 0 = 124 then brW xsb_11 q (k + 1) (wd + 1) (wd + 1) else brW xsb_11 q (k + 1) br (wd + 1)) else (if xsb_11.getD k 0 = 124 then brW xsb_11 q (k + 1) wd wd else brW xsb_11 q (k + 1) br wd) := rfl
      rw [es] at e
      refine w346s11_24 xs (d + 4) _ _ _ _ _ m _ (y_ci (c22_11 xs (d + 3) m) (by omega) ⟨fun z => absurd z (by have y := nI_ge (a := k) (b := xsb_11.length) (by omega) (by omega); rw [x3] at y; exact y), fun _ => ?_⟩)
      refine y_ci (c24_11 xs (d + 1) m k (by omega)) (by omega) ⟨fun w => ?_, fun w => ?_⟩
      · rw [if_neg w] at e
        refine w346s11_55 xs (d + 4) _ _ _ _ _ m _ (y_ci (c24_11 xs (d + 1) m k (by omega)) (by omega) ⟨fun y => w346s11_76 xs (d + 4) _ _ _ _ _ m _ ?_, fun y => w346s11_76 xs (d + 4) _ _ _ _ _ m _ ?_⟩)
        · rw [if_neg y] at e
          rw [nI_1]
          exact ih (k + 1) _ _ u (by omega) e hu
        · rw [if_pos y] at e
          rw [nI_1]
          exact ih (k + 1) _ _ u (by omega) e hu
      · rw [if_pos w] at e
        refine w346s11_55 xs (d + 4) _ _ _ _ _ m _ (y_ci (c24_11 xs (d + 1) m k (by omega)) (by omega) ⟨fun y => w346s11_76 xs (d + 4) _ _ _ _ _ m _ ?_, fun y => w346s11_76 xs (d + 4) _ _ _ _ _ m _ ?_⟩)
        · rw [if_neg y] at e
          rw [nI_1]
          exact ih (k + 1) _ _ u (by omega) e hu
        · rw [if_pos y] at e
          rw [nI_1]
          exact ih (k + 1) _ _ u (by omega) e hu
  refine w346s11_0 xs (d + 4) _ _ _ m _ (yC.mono (Nat.le_refl _) (fun r m1 q => ?_) (hb m))
  obtain ⟨rfl, rfl⟩ := q
  refine ⟨rfl, y_ci (c325_11 xs d hR ho hl8 ha (hnm.no 32 (by decide) (by decide))) (by omega) ?_⟩
  refine bar (xsb_11.length - 1) 1 0 0 _ (by rw [x3]) rfl ?_
  have cs := ixw_c (Rs.getD a []) ws11 0
  rcases cs with y | ⟨t, t1, y, t3⟩
  · exact Or.inl y
  · right
    rw [y, Nat.zero_add]
    exact pv_ex (by decide +kernel) t t1 (by rw [t3]; exact hnm.bd)

theorem c346_12 (xs : List Int32) (d : Nat) {m : yM} {Rs : List (List Int32)} (hR : NR m Rs) (ho : offs Rs Rs.length ≤ 8192) (hl8 : Rs.length ≤ 8192) {a : Nat} (ha : a < Rs.length) (hnm : nmc (Rs.getD a [])) {b : Int32} (hb : ∀ m, yC (xg xs) (d + 4) 347 [.int b] m (fun r m' => r = some (.retAddr 32) ∧ m' = m)) (o : Int32) : yC (xg xs) (d + 5) 346 [.ref 58, .int b, .int (nI a), .int o] m (fun r m' => r = some (.int (pinV xsb_12 ws12 (Rs.getD a []) o)) ∧ m' = m) := by
  have x3 := xl_12
  -- the end: the number that stands there
  have fin : ∀ (q k : Nat) (t n z : Int32), k + q + 1 = xsb_12.length → pvW xsb_12 t q k n = some z → yP (xg xs) (d + 5) 346 114 [(4, .retAddr 32), (5, .int t), (8, .int (nI k)), (9, .int n)] [] m (fun r m' => r = some (.int z) ∧ m' = m) := by
    intro q
    induction q with
    | zero => intro k t n z hk e; cases e
    | succ q ih =>
      intro k t n z hk e
      have e : (if t < n then some (10 * (xsb_12.getD k 0 - 48) + xsb_12.getD (k + 1) 0 - 48) else if xsb_12.getD k 0 = 32 then pvW xsb_12 t q (k + 1) (n + 1) else pvW xsb_12 t q (k + 1) n) = some z := e
      refine w346s12_114 xs (d + 4) _ _ _ m _ ⟨fun u => ?_, fun u => ?_⟩
      · rw [if_pos u] at e
        refine y_ci (c24_12 xs (d + 1) m k (by omega)) (by omega) ?_
        rw [nI_1]
        refine y_ci (c24_12 xs (d + 1) m (k + 1) (by omega)) (by omega) ⟨?_, rfl⟩
        rw [← Option.some.inj e]
      · rw [if_neg u] at e
        refine y_ci (c24_12 xs (d + 1) m k (by omega)) (by omega) ⟨fun w => w346s12_142 xs (d + 4) _ _ _ m _ ?_, fun w => w346s12_142 xs (d + 4) _ _ _ m _ ?_⟩
        · rw [if_neg w] at e
          rw [nI_1]
          exact ih (k + 1) t n z (by omega) e
        · rw [if_pos w] at e
          rw [nI_1]
          exact ih (k + 1) t (n + 1) z (by omega) e
  have bar : ∀ (q k : Nat) (br wd u : Int32), k + q = xsb_12.length → brW xsb_12 q k br wd = brW xsb_12 (xsb_12.length - 1) 1 0 0 → (u = -1 ∨ ∃ z, pvW xsb_12 u (xsb_12.length - 2) 1 0 = some z) → yP (xg xs) (d + 5) 346 24 [(3, .int o), (4, .retAddr 32), (5, .int u), (6, .int br), (7, .int wd), (8, .int (nI k))] [] m (fun r m' => r = some (.int (if u = -1 then -1 else if o = (if u ≤ brW xsb_12 (xsb_12.length - 1) 1 0 0 then 0 else 1) then (pvW xsb_12 u (xsb_12.length - 2) 1 0).getD 0 else -1)) ∧ m' = m) := by
    intro q
    induction q with
    | zero =>
      intro k br wd u hk e hu
      have e : br = brW xsb_12 (xsb_12.length - 1) 1 0 0 := e
      refine w346s12_24 xs (d + 4) _ _ _ _ _ m _ (y_ci (c22_12 xs (d + 3) m) (by omega) ⟨fun _ => ⟨fun w => ⟨by rw [if_pos w], rfl⟩, fun w => ?_⟩, fun z => absurd (nI_le (a := xsb_12.length) (b := k) (by omega) (by omega)) (by rw [x3]; exact z)⟩)
      rw [if_neg w, ← e]
      obtain ⟨z, hz⟩ := hu.resolve_left w
      have go : yP (xg xs) (d + 5) 346 114 [(4, .retAddr 32), (5, .int u), (8, .int (1 : Int32)), (9, .int (0 : Int32))] [] m (fun r m' => r = some (.int ((pvW xsb_12 u (xsb_12.length - 2) 1 0).getD 0)) ∧ m' = m) := by
        rw [hz]
        exact fin (xsb_12.length - 2) 1 u 0 z (by rw [x3]) hz
      refine ⟨fun y => w346s12_103 xs (d + 4) _ _ _ m _ ⟨fun g => ?_, fun g => ⟨?_, rfl⟩⟩, fun y => w346s12_103 xs (d + 4) _ _ _ m _ ⟨fun g => ?_, fun g => ⟨?_, rfl⟩⟩⟩
      · rw [if_pos y, if_pos g]; exact go
      · rw [if_pos y, if_neg g]
      · rw [if_neg y, if_pos g]; exact go
      · rw [if_neg y, if_neg g]
    | succ q ih =>
      intro k br wd u hk e hu
      have es : brW xsb_12 (q + 1) k br wd = if xsb_12.getD k 0 = 32 then (if xsb_12.getD k 0 = 124 then brW xsb_12 q (k + 1) (wd + 1) (wd + 1) else brW xsb_12 q (k + 1) br (wd + 1)) else (if xsb_12.getD k 0 = 124 then brW xsb_12 q (k + 1) wd wd else brW xsb_12 q (k + 1) br wd) := rfl
      rw [es] at e
      refine w346s12_24 xs (d + 4) _ _ _ _ _ m _ (y_ci (c22_12 xs (d + 3) m) (by omega) ⟨fun z => absurd z (by have y := nI_ge (a := k) (b := xsb_12.length) (by omega) (by omega); rw [x3] at y; exact y), fun _ => ?_⟩)
      refine y_ci (c24_12 xs (d + 1) m k (by omega)) (by omega) ⟨fun w => ?_, fun w => ?_⟩
      · rw [if_neg w] at e
        refine w346s12_55 xs (d + 4) _ _ _ _ _ m _ (y_ci (c24_12 xs (d + 1) m k (by omega)) (by omega) ⟨fun y => w346s12_76 xs (d + 4) _ _ _ _ _ m _ ?_, fun y => w346s12_76 xs (d + 4) _ _ _ _ _ m _ ?_⟩)
        · rw [if_neg y] at e
          rw [nI_1]
          exact ih (k + 1) _ _ u (by omega) e hu
        · rw [if_pos y] at e
          rw [nI_1]
          exact ih (k + 1) _ _ u (by omega) e hu
      · rw [if_pos w] at e
        refine w346s12_55 xs (d + 4) _ _ _ _ _ m _ (y_ci (c24_12 xs (d + 1) m k (by omega)) (by omega) ⟨fun y => w346s12_76 xs (d + 4) _ _ _ _ _ m _ ?_, fun y => w346s12_76 xs (d + 4) _ _ _ _ _ m _ ?_⟩)
        · rw [if_neg y] at e
          rw [nI_1]
          exact ih (k + 1) _ _ u (by omega) e hu
        · rw [if_pos y] at e
          rw [nI_1]
          exact ih (k + 1) _ _ u (by omega) e hu
  refine w346s12_0 xs (d + 4) _ _ _ m _ (yC.mono (Nat.le_refl _) (fun r m1 q => ?_) (hb m))
  obtain ⟨rfl, rfl⟩ := q
  refine ⟨rfl, y_ci (c325_12 xs d hR ho hl8 ha (hnm.no 32 (by decide) (by decide))) (by omega) ?_⟩
  refine bar (xsb_12.length - 1) 1 0 0 _ (by rw [x3]) rfl ?_
  have cs := ixw_c (Rs.getD a []) ws12 0
  rcases cs with y | ⟨t, t1, y, t3⟩
  · exact Or.inl y
  · right
    rw [y, Nat.zero_add]
    exact pv_ex (by decide +kernel) t t1 (by rw [t3]; exact hnm.bd)

def pnS (s : Nat) (w : List Int32) (o : Int32) : Int32 := if s = 0 then pinV xsb_7 ws7 w o else if s = 1 then pinV xsb_7 ws7 w o else if s = 2 then pinV xsb_7 ws7 w o else if s = 3 then pinV xsb_8 ws8 w o else if s = 4 then pinV xsb_9 ws9 w o else if s = 5 then pinV xsb_10 ws10 w o else if s = 6 then pinV xsb_10 ws10 w o else if s = 7 then pinV xsb_11 ws11 w o else pinV xsb_12 ws12 w o
theorem c346 (xs : List Int32) (d : Nat) {m : yM} {Rs : List (List Int32)} (hR : NR m Rs) (ho : offs Rs Rs.length ≤ 8192) (hl8 : Rs.length ≤ 8192) {a : Nat} (ha : a < Rs.length) (hnm : nmc (Rs.getD a [])) {s : Nat} (hs : s < 9) (o : Int32) : yC (xg xs) (d + 5) 346 [.ref 58, .int (nI s), .int (nI a), .int o] m (fun r m' => r = some (.int (pnS s (Rs.getD a []) o)) ∧ m' = m) := by
  have c : s = 0 ∨ s = 1 ∨ s = 2 ∨ s = 3 ∨ s = 4 ∨ s = 5 ∨ s = 6 ∨ s = 7 ∨ s = 8 := by omega
  rcases c with rfl | rfl | rfl | rfl | rfl | rfl | rfl | rfl | rfl
  · exact c346_7 xs d hR ho hl8 ha hnm (fun m => c347_0 xs (d + 3) m) o
  · exact c346_7 xs d hR ho hl8 ha hnm (fun m => c347_1 xs (d + 3) m) o
  · exact c346_7 xs d hR ho hl8 ha hnm (fun m => c347_2 xs (d + 3) m) o
  · exact c346_8 xs d hR ho hl8 ha hnm (fun m => c347_3 xs (d + 3) m) o
  · exact c346_9 xs d hR ho hl8 ha hnm (fun m => c347_4 xs (d + 3) m) o
  · exact c346_10 xs d hR ho hl8 ha hnm (fun m => c347_5 xs (d + 3) m) o
  · exact c346_10 xs d hR ho hl8 ha hnm (fun m => c347_6 xs (d + 3) m) o
  · exact c346_11 xs d hR ho hl8 ha hnm (fun m => c347_7 xs (d + 3) m) o
  · exact c346_12 xs d hR ho hl8 ha hnm (fun m => c347_8 xs (d + 3) m) o
/-- class and reference tell the same port -/
def prR (p q : Int32) : Prop := (p = -1 ∧ q = -1) ∨ ∃ c t, c < 6 ∧ t < 3 ∧ p = nI (10 * c + t) ∧ q = nI (4 * c + t)
def prB (p q : Int32) : Bool := (p == -1 && q == -1) || (List.range 6).any (fun c => (List.range 3).any (fun t => p == nI (10 * c + t) && q == nI (4 * c + t)))
theorem prB_R {p q : Int32} (h : prB p q = true) : prR p q := by
  unfold prB at h
  rcases Bool.or_eq_true _ _ ▸ h with y | y
  · have := Bool.and_eq_true _ _ ▸ y
    exact Or.inl ⟨by simpa using this.1, by simpa using this.2⟩
  · obtain ⟨c, c1, y⟩ := List.any_eq_true.mp y
    obtain ⟨t, t1, y⟩ := List.any_eq_true.mp y
    have := Bool.and_eq_true _ _ ▸ y
    exact Or.inr ⟨c, t, List.mem_range.mp c1, List.mem_range.mp t1, by simpa using this.1, by simpa using this.2⟩
theorem pin_kn : (List.range 9).all (fun s => (List.range 75).all (fun j => prB (pnS s (KN.getD j []) 0) (spR (nI s) (nI j) 1 32 0) && prB (pnS s (KN.getD j []) 1) (spR (nI s) (nI j) 2 32 0))) = true := by decide +kernel
