/-! THE REFERENCE'S RULES: declared variables get their types and cells -/
/-- blocks keep kinds, names and first variables -/
def BX (σ σ' : RS) : Prop := σ'.1.length = σ.1.length ∧ ∀ b, (σ'.1.getD b dBK).1 = (σ.1.getD b dBK).1 ∧ (σ'.1.getD b dBK).2.2.1 = (σ.1.getD b dBK).2.2.1 ∧ (σ'.1.getD b dBK).2.2.2.2 = (σ.1.getD b dBK).2.2.2.2
theorem BX.re (σ : RS) : BX σ σ := ⟨rfl, fun _ => ⟨rfl, rfl, rfl⟩⟩
theorem bix_x {B B' : List BK} (h : ∀ b, (B'.getD b dBK).2.2.1 = (B.getD b dBK).2.2.1) (x : Int32) : ∀ n, bix B' x n = bix B x n
  | 0 => rfl
  | n + 1 => by
    unfold bix
    rw [h n, bix_x h x n]
theorem BX.f {σ σ' : RS} (h : BX σ σ') (k lo hi up x : Int32) : fBlk σ' k lo hi up x = fBlk σ k lo hi up x := by
  unfold fBlk
  rw [h.1, bix_x (fun b => (h.2 b).2.1) x, (h.2 _).1]
theorem BX.n {σ σ' : RS} (h : BX σ σ') (hd : dsN σ) : dsN σ' := by
  intro a b ha hb e
  rw [h.1] at ha hb
  rw [(h.2 a).2.1, (h.2 b).2.1] at e
  exact hd a b ha hb e
theorem BX.sc (σ : RS) {b : Nat} (hb : b < σ.1.length) (c : Int32) : BX σ (setC σ b c) := by
  refine ⟨setC_l σ b c, fun e => ?_⟩
  rw [setC_at σ hb c e]
  by_cases q : e = b
  · subst q
    rw [if_pos rfl]
    exact ⟨rfl, rfl, rfl⟩
  · rw [if_neg q]
    exact ⟨rfl, rfl, rfl⟩
/-- a type's node -/
def tpQ (J : JV) (σ : RS) (t : Nat) : Prop := t < J.2.2.1.length ∧ σ.2.2.1 t = nI (kK J.2.2.1 t) ∧ (kK J.2.2.1 t = 8 ∨ kK J.2.2.1 t = 9 ∨ kK J.2.2.1 t = 10) ∧ (kK J.2.2.1 t = 8 → vtF J.2.2.1 t = 0 ∧ σ.2.2.2.1 t = vF J.2.2.1 t) ∧ (kK J.2.2.1 t = 9 → kids J.2.2.1 t = [t + 1, t + 2, t + 3] ∧ CN J σ (t + 1) ∧ CN J σ (t + 2) ∧ t + 3 < J.2.2.1.length ∧ vtF J.2.2.1 (t + 3) = 0 ∧ σ.2.2.2.2 t = vF J.2.2.1 (t + 3) ∧ σ.2.2.2.1 t = σ.2.2.2.1 (t + 2) - σ.2.2.2.1 (t + 1) + 1) ∧ (kK J.2.2.1 t = 10 → ¬ vtF J.2.2.1 t = 0 ∧ σ.2.2.2.1 t = fBlk σ 2 41 50 9 (vF J.2.2.1 t) ∧ ¬ σ.2.2.2.1 t = -1)
theorem tpQ.x {J : JV} {σ σ' : RS} {t : Nat} (h : tpQ J σ t) (b : BX σ σ') (e : σ'.2.2 = σ.2.2) : tpQ J σ' t := by
  unfold tpQ CN
  rw [b.f, e]
  exact h
theorem pl335 : ∀ w, w < 6 → ∀ k, k < 256 → (3 ≤ nI (256 * w + k) / 256 ↔ 3 ≤ w) ∧ (3 ≤ w → 768 + 64 * (nI (256 * w + k) / 256 - 3) + (nI (256 * w + k) - nI (256 * w + k) / 256 * 256) = nI (plC w k)) ∧ (¬ 3 ≤ w → nI (256 * w + k) = nI (plC w k)) := by decide +kernel
theorem c335 (xs : List Int32) (d : Nat) (m : yM) {w k : Nat} (hw : w < 6) (hk : k < 256) : yC (xg xs) (d + 1) 335 [.int (nI (256 * w + k))] m (fun r m' => r = some (.int (nI (plC w k))) ∧ m' = m) := by
  obtain ⟨h1, h2, h3⟩ := pl335 w hw k hk
  refine w335_0 xs d _ m _ ⟨by decide, fun z => ⟨by decide, ?_, rfl⟩, fun z => ⟨?_, rfl⟩⟩
  · rw [h2 (h1.mp z)]
  · rw [h3 (fun y => z (h1.mpr y))]
theorem c334 (xs : List Int32) (d : Nat) (m : yM) {s : Nat} (hs : s < 9) : yC (xg xs) (d + 1) 334 [.int (nI s)] m (fun r m' => r = some (.int (xar_2.getD s 0)) ∧ m' = m) := by
  have : ∀ s, s < 9 → (5 ≤ nI s → xar_2.getD s 0 = 3) ∧ (¬ 5 ≤ nI s → xar_2.getD s 0 = 6) := by decide +kernel
  obtain ⟨h1, h2⟩ := this s hs
  exact w334_0 xs d _ m _ ⟨fun z => ⟨by rw [h1 z], rfl⟩, fun z => ⟨by rw [h2 z], rfl⟩⟩
theorem RB.st {J : JV} {σ : RS} {m m' : yM} (h : RB J σ m) (h0 : 0 < σ.1.length) {v : Nat} (hv : v < σ.2.1.length) {y : Int32 × Nat × Int32 × Int32} {c : Int32} (g : ∀ a i, 69 < a → a < 84 → ¬ (75 < a ∧ i = v) → ¬ (a = 72 ∧ i = σ.1.length - 1) → m'.1 a i = m.1 a i) (g5 : ∀ i, i = 3 ∨ i = 23 ∨ i = 29 ∨ i = 30 → m'.1 58 i = m.1 58 i) (q : m'.1 72 (σ.1.length - 1) = c) (hd : vdR J σ m' v y) : RB J (setC (setVr σ v y) (σ.1.length - 1) c) m' := by
  have a := RB.ds (m' := y_si m' 72 (σ.1.length - 1) (m.1 72 (σ.1.length - 1))) h hv (y := y) (fun a i z1 z2 z3 => ?_) (fun i hi => ?_) ?_
  · exact RB.sc a (show σ.1.length - 1 < (setVr σ v y).1.length by show _ < σ.1.length; omega) (fun a i z1 z2 z3 => by rw [y_si_at, if_neg z3]) (fun i hi => by rw [y_si_at, if_neg (by omega)]) q
  · rw [y_si_at]
    by_cases e : a = 72 ∧ i = σ.1.length - 1
    · rw [if_pos e, e.1, e.2]
    · rw [if_neg e]; exact g a i z1 z2 z3 e
  · rw [y_si_at, if_neg (by omega)]; exact g5 i hi
  · exact hd.fr rfl Iff.rfl rfl (fun a z1 z2 => by rw [y_si_at, if_neg (by omega)])
/-- shape and type as the reference writes them -/
def l7T (J : JV) (t : Nat) : Int32 := if kK J.2.2.1 t = 8 then 0 else if kK J.2.2.1 t = 9 then 1 else 2
def l8T (J : JV) (t : Nat) : Int32 := if kK J.2.2.1 t = 8 then vF J.2.2.1 t else if kK J.2.2.1 t = 9 then vF J.2.2.1 (t + 3) else -1
/-- where it is told to be -/
def atQ (σ : RS) (l4 at_ : Int32) : Prop := (l4 = -1 ∧ at_ = -1) ∨ ∃ w k, w < 6 ∧ k < 256 ∧ (3 ≤ w → k < 64) ∧ l4 = nI (256 * w + k) ∧ at_ = nI (plC w k) ∧ inB σ 3
def l6Q (J : JV) (σ : RS) (l6 ini : Int32) : Prop := (l6 = -1 ∧ ini = 0) ∨ ∃ c, l6 = nI (J.2.2.2 c) ∧ CN J σ c ∧ ini = σ.2.2.2.1 c
