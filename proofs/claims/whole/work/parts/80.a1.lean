/-! MEASURE: all units -/
def csF (D : List IT) (B : Nat → Int) (i : Nat) : Nat := if (D.getD i dIT).1 = 15 ∨ (D.getD i dIT).1 = 16 then (B ((D.getD i dIT).2.1).toNatClampNeg + 1).toNat else 1
def bdO (D : List IT) (B : Nat → Int) : Option Nat := omx (gT D (csF D B) 61 0 D.length).1 (gT D (csF D B) 61 0 D.length).2.2
def bdV (o : Option Nat) : Int := match o with
  | none => -1
  | some t => t
abbrev okS (D : List IT) : Prop := ∀ i, i < D.length → rchP D D.length i = true → layP D (i + 1) ≤ 64
/-- the bounds of all units, or the first unit's fault -/
def msr (F : List ND) (σ : RS) : Nat → Nat → (Nat → Int) → (Nat → Int) ⊕ (Int32 × Nat)
  | 0 => fun _ B => .inl B
  | k + 1 => fun b B => if okS (unC F σ 186 b) then (if bdV (bdO (unC F σ 186 b) B) ≤ 1000000000 then msr F σ k (b + 1) (fun x => if x = b then bdV (bdO (unC F σ 186 b) B) else B x) else .inr (52, b)) else .inr (51, b)
theorem csF_c {D : List IT} {U : Nat} {B : Nat → Int} (hU : U ≤ 16) (hB : ∀ x, x < U → -1 ≤ B x ∧ B x ≤ 1000000000) : CSt D U (csF D B) B := by
  refine ⟨fun i _ => ⟨fun z b hb e => ?_, fun z => ?_⟩, hB⟩
  · unfold csF
    rw [if_pos z, e, nI_clamp (by omega)]
    have := hB b hb
    omega
  · unfold csF
    rw [if_neg z]
theorem bd_val {M : Nat} {o : Option Nat} {v : Int64} (h : AB M o v) : (lg_cmp v 1000000000 ≤ 0 ↔ bdV o ≤ 1000000000) ∧ (bdV o ≤ 1000000000 → v.toInt = bdV o) ∧ -1 ≤ bdV o := by
  rw [lg_cmp_le, Int64.le_iff_toInt_le, show (1000000000 : Int64).toInt = 1000000000 from rfl]
  cases o with
  | none =>
    have h : v.toInt = -1 := h
    refine ⟨⟨fun _ => by show (-1 : Int) ≤ _; omega, fun _ => by omega⟩, fun _ => h, by show (-1 : Int) ≤ -1; omega⟩
  | some t =>
    obtain ⟨a1, a2, a3, a4⟩ := h
    have e : bdV (some t) = (t : Int) := rfl
    rw [e]
    refine ⟨⟨fun z => ?_, fun z => ?_⟩, fun z => a3 (by omega), by omega⟩
    · rcases Nat.lt_or_ge t 2000000000 with w | w
      · have := a3 w; omega
      · have := a4 w; omega
    · have := a3 (by omega)
      omega
theorem un_at (F : List ND) (σ : RS) {b n : Nat} (hb : b < n) {i : Nat} {x : IT} (hx : (unC F σ 186 b)[i]? = some x) : (allC F σ 186 n)[(allC F σ 186 b).length + i]? = some x := by
  obtain ⟨D, hD⟩ := allC_app F σ 186 (n - (b + 1)) (b + 1)
  rw [show b + 1 + (n - (b + 1)) = n by omega] at hD
  have es : allC F σ 186 (b + 1) = allC F σ 186 b ++ unC F σ 186 b := rfl
  have il := (List.getElem?_eq_some_iff.mp hx).1
  rw [hD, es, List.append_assoc, List.getElem?_append_right (by omega), Nat.add_sub_cancel_left, List.getElem?_append_left il]
  exact hx
theorem un_le (F : List ND) (σ : RS) {b n : Nat} (hb : b < n) : (allC F σ 186 b).length + (unC F σ 186 b).length ≤ (allC F σ 186 n).length := by
  have := allC_le F σ 186 (n - (b + 1)) (b + 1)
  rw [show b + 1 + (n - (b + 1)) = n by omega] at this
  have es : allC F σ 186 (b + 1) = allC F σ 186 b ++ unC F σ 186 b := rfl
  rw [es, List.length_append] at this
  exact this
theorem CD_of {F : List ND} {σ : RS} {m : yM} (h : CU F σ m) (h16 : σ.1.length ≤ 16) (hs : (allC F σ 186 σ.1.length).length ≤ 3000) {b : Nat} (hb : b < σ.1.length) (h0 : mk0 (unC F σ 186 b)) : CD (unC F σ 186 b) (allC F σ 186 b).length b m := by
  obtain ⟨h1, h2, h3⟩ := h
  have le := un_le F σ hb
  have es : allC F σ 186 (b + 1) = allC F σ 186 b ++ unC F σ 186 b := rfl
  have el : (allC F σ 186 (b + 1)).length = (allC F σ 186 b).length + (unC F σ 186 b).length := by rw [es, List.length_append]
  refine ⟨by omega, by omega, h3 b hb, ?_, fun i x hx => ?_⟩
  · rw [h2, nI_1]
    by_cases c : b + 1 < σ.1.length
    · refine Or.inr ⟨fun z => ?_, by omega, ?_⟩
      · have := (nI_leI (by omega) (by omega)).mp z
        omega
      · rw [h3 (b + 1) c, el]
    · have e : σ.1.length = b + 1 := by omega
      refine Or.inl ⟨nI_le (by omega) (by omega), ?_⟩
      rw [h1.1, e, el]
  · obtain ⟨a1, a2, a3, -⟩ := h1.2.2 hs _ x (un_at F σ hb hx)
    refine ⟨a1, ?_, a3⟩
    rw [a2]
    unfold caV
    rw [if_pos (h0 x (List.mem_of_getElem? hx))]
theorem RD_of {J : JV} {s : SU} {m : yM} (h : RU J s m) (h16 : s.1.1.length ≤ 16) (hs : (allC J.2.2.1 s.1 186 s.1.1.length).length ≤ 3000) {b : Nat} (hb : b < s.1.1.length) (h0 : mk0 (unC J.2.2.1 s.1 186 b)) : RD (unC J.2.2.1 s.1 186 b) (allC J.2.2.1 s.1 186 b).length b m := by
  obtain ⟨h1, h2, h3⟩ := h
  have le := un_le J.2.2.1 s.1 hb
  have es : allC J.2.2.1 s.1 186 (b + 1) = allC J.2.2.1 s.1 186 b ++ unC J.2.2.1 s.1 186 b := rfl
  have el : (allC J.2.2.1 s.1 186 (b + 1)).length = (allC J.2.2.1 s.1 186 b).length + (unC J.2.2.1 s.1 186 b).length := by rw [es, List.length_append]
  refine ⟨by omega, by omega, h3 hs b (by omega), by rw [h3 hs (b + 1) (by omega), el], fun i x hx => ?_⟩
  obtain ⟨a1, a2, a3, -⟩ := (h2.1 hs).2.2 _ x (un_at J.2.2.1 s.1 hb hx)
  refine ⟨a1, ?_, a3⟩
  rw [a2]
  unfold raV
  rw [if_pos (h0 x (List.mem_of_getElem? hx))]
/-- what measuring leaves alone -/
def KMc (m m' : yM) : Prop := (∀ a i, ¬ a = 41 → ¬ a = 45 → ¬ a = 48 → ¬ a = 49 → m'.1 a i = m.1 a i) ∧ (∀ i, ¬ i = 7 → m'.1 45 i = m.1 45 i) ∧ ∀ a, ¬ a = 46 → ¬ a = 47 → ¬ a = 50 → ¬ a = 51 → m'.2 a = m.2 a
theorem KMc.re (m : yM) : KMc m m := ⟨fun _ _ _ _ _ _ => rfl, fun _ _ => rfl, fun _ _ _ _ _ => rfl⟩
theorem KMc.tr {m m1 m2 : yM} (h : KMc m m1) (h2 : KMc m1 m2) : KMc m m2 := ⟨fun a i x y z w => (h2.1 a i x y z w).trans (h.1 a i x y z w), fun i x => (h2.2.1 i x).trans (h.2.1 i x), fun a x y z w => (h2.2.2 a x y z w).trans (h.2.2 a x y z w)⟩
theorem c218 (xs : List Int32) (d : Nat) {D : List IT} {S b U : Nat} {B : Nat → Int} {m : yM} (h : CD D S b m) (hf : FW D.length D 0) (h0 : mk0 D) (hop : iOps D) (hU : U ≤ 16) (hBb : ∀ x, x < U → -1 ≤ B x ∧ B x ≤ 1000000000) (hB : ∀ x, x < U → (m.1 41 x).toInt = B x) (hl : LPz D U 60 none 0 D.length) : yC (xg xs) (d + 4) 218 [.ref 45, .int (nI b)] m (fun r m' => KMc m m' ∧ (∀ x, ¬ x = b → m'.1 41 x = m.1 41 x) ∧ (okS D → bdV (bdO D B) ≤ 1000000000 → r = some (.int 0) ∧ (m'.1 41 b).toInt = bdV (bdO D B) ∧ -1 ≤ bdV (bdO D B)) ∧ (okS D → ¬ bdV (bdO D B) ≤ 1000000000 → r = some (.int 52)) ∧ (¬ okS D → r = some (.int 51))) := by
  have hb := h.2.1
  refine w218_0 xs (d + 3) _ m _ (yC.mono (by omega) (fun r m1 q => ?_) (c219 xs (d + 1) h hf h0 hop))
  obtain ⟨⟨u, rfl, hu⟩, k1⟩ := q
  have c1 : CD D S b m1 := h.k (fun a i _ => by rw [k1.1])
  have km1 : KMc m m1 := ⟨fun a i _ _ _ _ => by rw [k1.1], fun i _ => by rw [k1.1], fun a x _ _ _ => k1.2 a x⟩
  refine ⟨u, rfl, fun z => ?_, fun z => ⟨km1, fun x _ => by rw [k1.1], fun w => absurd (hu.mpr w) z, fun w => absurd (hu.mpr w) z, fun _ => rfl⟩⟩
  have ok : okS D := hu.mp z
  refine yC.mono (by omega) (fun r m2 q => ?_) (c226 xs d c1 hU (csF_c hU hBb) (fun x hx => by rw [k1.1]; exact hB x hx) (show 60 ≤ 61 by omega) hl)
  obtain ⟨⟨v, rfl, hv⟩, k2⟩ := q
  have hv : AB 1000000000001 (bdO D B) v := hv
  obtain ⟨b1, b2, b3⟩ := bd_val hv
  have km2 : KMc m m2 := km1.tr ⟨fun a i _ x y z => k2.1 a i x y z, fun i x => k2.2.1 i x, fun a x y z w => k2.2.2 a x y z w⟩
  have e41 : ∀ x, m2.1 41 x = m.1 41 x := fun x => by rw [k2.1 41 x (by omega) (by omega) (by omega), k1.1]
  refine ⟨v, rfl, fun z => ⟨x_in_nI hb (by decide), ?_⟩, fun z => ⟨km2, fun x _ => e41 x, fun _ w => absurd (b1.mpr w) z, fun _ _ => rfl, fun w => absurd ok w⟩⟩
  have le : bdV (bdO D B) ≤ 1000000000 := b1.mp z
  have ev := b2 le
  rw [nI_clamp (by omega)]
  refine ⟨⟨fun a i x y z w => ?_, fun i x => ?_, fun a x y z w => km2.2.2 a x y z w⟩, fun x hx => ?_, fun _ _ => ⟨rfl, ?_, b3⟩, fun _ w => absurd le w, fun w => absurd ok w⟩
  · rw [y_si_at, if_neg (fun z => x z.1)]; exact km2.1 a i x y z w
  · rw [y_si_at, if_neg (by omega)]; exact km2.2.1 i x
  · rw [y_si_at, if_neg (fun z => hx z.2)]; exact e41 x
  · rw [y_si_same, Int64.toInt_toInt32, ev, Int.bmod_eq_of_le (by omega) (by omega)]
/-- all that is known of the text and its code -/
def HM (m0 : yM) (T : Nat) (F : List ND) (s : SU) : Prop := HY m0 T F s ∧ P21 F [] F.length s ∧ P22 F [] F.length s ∧ P24 F [] F.length ∧ LDG 60 F ∧ s.1.1.length ≤ 16
theorem CR.kmc {F : List ND} {σ : RS} {m m' : yM} (h : CR F σ m) (k : KMc m m') : CR F σ m' := h.ek (fun a i ha => k.1 a i (by omega) (by omega) (by omega) (by omega))
theorem CU.kmc {F : List ND} {σ : RS} {m m' : yM} (h : CU F σ m) (k : KMc m m') : CU F σ m' := by
  obtain ⟨h1, h2, h3⟩ := h
  have g : ∀ a i, a < 41 → m'.1 a i = m.1 a i := fun a i ha => k.1 a i (by omega) (by omega) (by omega) (by omega)
  refine ⟨⟨by rw [g _ _ (by omega)]; exact h1.1, h1.2.1, fun hl i x hx => ?_⟩, by rw [g _ _ (by omega)]; exact h2, fun b hb => by rw [g _ _ (by omega)]; exact h3 b hb⟩
  rw [g _ _ (by omega), g _ _ (by omega), g _ _ (by omega), g _ _ (by omega)]
  exact h1.2.2 hl i x hx
theorem c188m (xs : List Int32) (d : Nat) {m0 : yM} {T : Nat} {J : JV} {s : SU} (hm : HM m0 T J.2.2.1 s) (hsz : (allC J.2.2.1 s.1 186 s.1.1.length).length ≤ 3000) {m : yM} {Q : Option Value → yM → Prop} (hcr : CR J.2.2.1 s.1 m) (hcu : CU J.2.2.1 s.1 m) : ∀ (k b : Nat) (B : Nat → Int) (m1 : yM), b + k = s.1.1.length → KMc m m1 → (∀ x, x < b → (-1 ≤ B x ∧ B x ≤ 1000000000) ∧ (m1.1 41 x).toInt = B x) → (match msr J.2.2.1 s.1 k b B with | .inl B' => ∀ m', KMc m m' → (∀ x, x < s.1.1.length → (-1 ≤ B' x ∧ B' x ≤ 1000000000) ∧ (m'.1 41 x).toInt = B' x) → Q (some (.int 0)) m' | .inr (c, b') => ∀ m', KMc m m' → Q (some (.int c)) (y_si m' 0 11 (plF J.2.2.1 (nB s b')))) → yP (xg xs) (d + 5) 188 72 [(0, .ref 0), (1, .int (nI b))] [] m1 Q := by
  have h16 : s.1.1.length ≤ 16 := hm.2.2.2.2.2
  have hz := hm.1.1
  intro k
  induction k with
  | zero =>
    intro b B m1 hb k1 r1 hq
    have hb : b = s.1.1.length := hb
    subst hb
    refine w188_72 xs (d + 4) _ m1 _ ?_
    rw [(hcr.kmc k1).nB.1]
    exact ⟨fun _ => hq m1 k1 r1, fun z => absurd (nI_le (Nat.le_refl _) (by omega)) z⟩
  | succ k ih =>
    intro b B m1 hb k1 r1 hq
    have hb' : b < s.1.1.length := by omega
    have h0 := unC_0 hz hb'
    have cd := CD_of (hcu.kmc k1) h16 hsz hb' h0
    have c1 := hcr.kmc k1
    have ul : (unC J.2.2.1 s.1 186 b).length ≤ 3000 := by have := un_le J.2.2.1 s.1 hb'; omega
    have hl := unC_L (M := 60) hz hb' (ck_of hz hm.2.2.1 hm.2.2.2.1 hb' h16) ul hm.2.2.2.2.1
    have place : ∀ (m2 : yM), KMc m m2 → yC (xg xs) (d + 4) 230 [.ref 18, .int (nI b)] m2 (fun r m' => r = some (.int (plF J.2.2.1 (nB s b))) ∧ m' = m2) := by
      intro m2 k2
      have c2 := hcr.kmc k2
      obtain ⟨-, p1, -, -, -, p2⟩ := c2.b hb'
      have p3 := (c2.t p2).2.1
      have f := c2.1.2.2.1
      refine w230_0 xs (d + 3) _ m2 _ ?_
      rw [nI_clamp (by omega), p1, nI_clamp (by omega), p3]
      exact ⟨x_in_nI (by omega) (by decide), x_in_nI (by omega) (by decide), rfl, rfl⟩
    refine w188_72 xs (d + 4) _ m1 _ ?_
    rw [c1.nB.1]
    refine ⟨fun z => ?_, fun _ => yC.mono (by omega) (fun r m2 q => ?_) (c218 xs d cd (unC_f hz hb') h0 (unC_o _ _ _) (show b ≤ 16 by omega) (fun x hx => (r1 x hx).1) (fun x hx => (r1 x hx).2) hl)⟩
    · have := (nI_leI (by omega) (by omega)).mp z
      omega
    · obtain ⟨k2, o2, q1, q2, q3⟩ := q
      have k3 := k1.tr k2
      have es : msr J.2.2.1 s.1 (k + 1) b B = if okS (unC J.2.2.1 s.1 186 b) then (if bdV (bdO (unC J.2.2.1 s.1 186 b) B) ≤ 1000000000 then msr J.2.2.1 s.1 k (b + 1) (fun x => if x = b then bdV (bdO (unC J.2.2.1 s.1 186 b) B) else B x) else .inr (52, b)) else .inr (51, b) := rfl
      rw [es] at hq
      by_cases ok : okS (unC J.2.2.1 s.1 186 b)
      · rw [if_pos ok] at hq
        by_cases le : bdV (bdO (unC J.2.2.1 s.1 186 b) B) ≤ 1000000000
        · rw [if_pos le] at hq
          obtain ⟨rfl, e2, e3⟩ := q1 ok le
          refine ⟨0, rfl, fun _ => ?_, fun z => absurd rfl z⟩
          rw [nI_1]
          refine ih (b + 1) _ m2 (by omega) k3 (fun x hx => ?_) hq
          by_cases c : x = b
          · rw [if_pos c, c]
            exact ⟨⟨e3, le⟩, e2⟩
          · rw [if_neg c, o2 x c]
            exact r1 x (by omega)
        · rw [if_neg le] at hq
          rw [q2 ok le]
          exact ⟨52, rfl, fun z => absurd z (by decide), fun _ => y_ci (place m2 k3) (Nat.le_refl _) (hq m2 k3)⟩
      · rw [if_neg ok] at hq
        rw [q3 ok]
        exact ⟨51, rfl, fun z => absurd z (by decide), fun _ => y_ci (place m2 k3) (Nat.le_refl _) (hq m2 k3)⟩
