/-! MAKE: what comes of a text; the class behind its rules -/
abbrev MO : Type := (Int32 × Int32) ⊕ (List ND × SU × (Nat → Int))
/-- behind the rules -/
def oRl (F : List ND) (s : SU) : MO := if 16 < s.1.1.length ∨ 3000 < (allC F s.1 186 s.1.1.length).length then .inl (50, 0) else match msr F s.1 s.1.1.length 0 (fun _ => 0) with
  | .inr (c, b) => .inl (c, plF F (nB s b))
  | .inl B => .inr (F, s, B)
/-- behind the reader -/
def oTr (F : List ND) : MO := match jn F 187 [] 0 (sg0 F) with
  | .inr (c, k) => .inl (c, plF F k)
  | .inl s => oRl F s
def oMk (r : PX) : MO := match r with
  | .inr (c, p) => .inl (c, p)
  | .inl (_, _, F) => oTr F
theorem msr_ne (F : List ND) (σ : RS) : ∀ (k b : Nat) (B : Nat → Int) (c : Int32) (b' : Nat), msr F σ k b B = .inr (c, b') → c = 51 ∨ c = 52
  | 0, b, B, c, b', h => by cases h
  | k + 1, b, B, c, b', h => by
    unfold msr at h
    split at h
    · split at h
      · exact msr_ne F σ k _ _ c b' h
      · have := congrArg Prod.fst (Sum.inr.inj h)
        exact Or.inr this.symm
    · have := congrArg Prod.fst (Sum.inr.inj h)
      exact Or.inl this.symm
/-- what the class's make leaves alone once the tokens are there -/
def KD (m m' : yM) : Prop := (∀ a i, 57 < a ∨ a = 1 ∨ a = 14 ∨ (a = 0 ∧ i = 9) → m'.1 a i = m.1 a i) ∧ ∀ a, 57 < a → m'.2 a = m.2 a
theorem KD.re (m : yM) : KD m m := ⟨fun _ _ _ => rfl, fun _ _ => rfl⟩
theorem KD.tr {m m1 m2 : yM} (h : KD m m1) (h2 : KD m1 m2) : KD m m2 := ⟨fun a i z => (h2.1 a i z).trans (h.1 a i z), fun a z => (h2.2 a z).trans (h.2 a z)⟩
theorem KD.s {m m1 : yM} (h : KD m m1) {k j : Nat} {v : Int32} (hk : k < 58 ∧ ¬ k = 1 ∧ ¬ k = 14 ∧ ¬ (k = 0 ∧ j = 9)) : KD m (y_si m1 k j v) := ⟨fun a i z => by rw [y_si_at, if_neg (by omega)]; exact h.1 a i z, h.2⟩
theorem KD.g {m m' : yM} (h : GVK m m') : KD m m' := ⟨fun a i z => h.1 a i (by omega), fun a _ => by rw [h.2]⟩
theorem KD.m {m m' : yM} (h : KMc m m') : KD m m' := ⟨fun a i z => h.1 a i (by omega) (by omega) (by omega) (by omega), fun a z => h.2.2 a (by omega) (by omega) (by omega) (by omega)⟩
/-- what is known when the rules are through -/
def HB (m0 : yM) (T : Nat) (F : List ND) (s : SU) : Prop := HY m0 T F s ∧ P21 F [] F.length s ∧ P22 F [] F.length s ∧ P24 F [] F.length ∧ LDG 60 F ∧ P26 s ∧ P29 F s ∧ (bsA s.1 (s.1.1.length - 1) ≤ 8192 ∧ inB s.1 3) ∧ jn F 187 [] 0 (sg0 F) = .inl s
theorem HB.m {m0 : yM} {T : Nat} {F : List ND} {s : SU} (h : HB m0 T F s) (h16 : s.1.1.length ≤ 16) : HM m0 T F s := ⟨h.1, h.2.1, h.2.2.1, h.2.2.2.1, h.2.2.2.2.1, h16⟩
theorem HB.p {m0 : yM} {T : Nat} {F : List ND} {s : SU} (h : HB m0 T F s) (h16 : s.1.1.length ≤ 16) : HP m0 T F s := ⟨⟨h.1.1.1, h.2.2.2.2.2.1, h.2.2.2.2.2.2.1, h16⟩, h.2.2.2.2.2.2.2.1⟩
theorem HB_of {m0 : yM} {T N n t o : Nat} {F : List ND} (hT : TKok m0 T) (e : p_text m0 N n = some (.inl (t, o, F))) (hF : HF m0 T F) (hN : HN F) (hW : TW m0 T F 187 0) (hz : szF F 0 = F.length) {s : SU} (ej : jn F 187 [] 0 (sg0 F) = .inl s) : HB m0 T F s := by
  obtain ⟨a1, a2⟩ := jn_all hF hW hz ej
  obtain ⟨b1, b2⟩ := jn_22 hF hW hz ej
  obtain ⟨c1, c2, c3, c4⟩ := jn_26 hF hW hz ej
  exact ⟨⟨⟨⟨hF, hN, a1, a2⟩, jn_16 hF hW hz ej, jn_17 hF hW hz ej, jn_18 hF hW ej, hW, hz⟩, jn_19 hF hW ej⟩, jn_21 hF hW hz ej, b1, b2, text_ld hT e, c1, c3, ⟨c4, jn_20 hF hW hz ej⟩, ej⟩
theorem CR.e0 {F : List ND} {σ : RS} {m m' : yM} (h : CR F σ m) (g : ∀ a i, 1 < a → a < 31 → m'.1 a i = m.1 a i) : CR F σ m' := by
  obtain ⟨h1, h2, h3, h4, h5⟩ := h
  unfold CR
  refine ⟨?_, fun b y hb => ?_, fun v y hv => ?_, fun j hj => ?_, fun i hi => ?_⟩
  · rw [g _ _ (by omega) (by omega), g _ _ (by omega) (by omega), g _ _ (by omega) (by omega)]; exact h1
  · rw [g _ _ (by omega) (by omega), g _ _ (by omega) (by omega), g _ _ (by omega) (by omega), g _ _ (by omega) (by omega)]; exact h2 b y hb
  · refine ⟨by rw [g _ _ (by omega) (by omega)]; exact (h3 v y hv).1, fun z hz => ?_⟩
    rw [g _ _ (by omega) (by omega), g _ _ (by omega) (by omega), g _ _ (by omega) (by omega), g _ _ (by omega) (by omega)]
    exact (h3 v y hv).2 z hz
  · rw [g _ _ (by omega) (by omega), g _ _ (by omega) (by omega)]; exact h4 j hj
  · rw [g _ _ (by omega) (by omega), g _ _ (by omega) (by omega), g _ _ (by omega) (by omega), g _ _ (by omega) (by omega), g _ _ (by omega) (by omega)]; exact h5 i hi
theorem CU.g {F : List ND} {σ : RS} {m m' : yM} (h : CU F σ m) (g : ∀ a i, 34 < a → a < 41 → m'.1 a i = m.1 a i) : CU F σ m' := by
  obtain ⟨h1, h2, h3⟩ := h
  refine ⟨⟨by rw [g _ _ (by omega) (by omega)]; exact h1.1, h1.2.1, fun hl i x hx => ?_⟩, by rw [g _ _ (by omega) (by omega)]; exact h2, fun b hb => by rw [g _ _ (by omega) (by omega)]; exact h3 b hb⟩
  rw [g _ _ (by omega) (by omega), g _ _ (by omega) (by omega), g _ _ (by omega) (by omega), g _ _ (by omega) (by omega)]
  exact h1.2.2 hl i x hx
/-- what stays of what the class made -/
def CM (F : List ND) (s : SU) (B : Nat → Int) (m : yM) : Prop := CR F s.1 m ∧ BA s.1 m ∧ Z27 s.1 m ∧ CU F s.1 m ∧ ∀ x, x < s.1.1.length → (-1 ≤ B x ∧ B x ≤ 1000000000) ∧ (m.1 41 x).toInt = B x
theorem BA.g {σ : RS} {m m' : yM} (h : BA σ m) (g : ∀ a i, 17 < a → a < 28 → m'.1 a i = m.1 a i) : BA σ m' := ⟨by rw [g 18 10 (by omega) (by omega)]; exact h.1, fun b hb k => by rw [g 27 b (by omega) (by omega)]; exact h.2 b hb k⟩
theorem Z27.g {σ : RS} {m m' : yM} (h : Z27 σ m) (g : ∀ a i, 17 < a → a < 28 → m'.1 a i = m.1 a i) : Z27 σ m' := fun z => by rw [g 27 _ (by omega) (by omega)]; exact h z
theorem CM.g {F : List ND} {s : SU} {B : Nat → Int} {m m' : yM} (h : CM F s B m) (g : ∀ a i, 1 < a → a < 42 → m'.1 a i = m.1 a i) : CM F s B m' := by
  obtain ⟨h1, h2, h3, h4, h5⟩ := h
  exact ⟨h1.e0 (fun a i x y => g a i x (by omega)), h2.g (fun a i x y => g a i (by omega) (by omega)), h3.g (fun a i x y => g a i (by omega) (by omega)), h4.g (fun a i x y => g a i (by omega) (by omega)), fun x hx => ⟨(h5 x hx).1, by rw [g 41 x (by omega) (by omega)]; exact (h5 x hx).2⟩⟩
/-- what make answers and leaves, the class -/
def mcQ (m : yM) (X : MO) (r : Option Value) (m' : yM) : Prop := KD m m' ∧ match X with
  | .inl (c, p) => r = some (.int c) ∧ ¬ c = 0 ∧ m'.1 0 10 = c ∧ m'.1 0 11 = p ∧ m'.1 0 12 = 0
  | .inr (F, s, B) => r = some (.int 0) ∧ m'.1 0 10 = 0 ∧ m'.1 0 11 = -1 ∧ m'.1 0 12 = 1 ∧ CM F s B m' ∧ m'.1 52 1 = 0 ∧ m'.1 52 2 = 0 ∧ ∀ x, x < 8192 → m'.1 53 x = pmF s.1 x
theorem mcQ.tr {m m1 m' : yM} {X : MO} {r : Option Value} (k : KD m m1) (h : mcQ m1 X r m') : mcQ m X r m' := ⟨k.tr h.1, h.2⟩
/-- a fault told before -/
theorem c18f (xs : List Int32) (D : Nat) {m : yM} {c p : Int32} (hc : ¬ c = 0) (h10 : m.1 0 10 = c) (h11 : m.1 0 11 = p) (h12 : m.1 0 12 = 0) : yP (xg xs) (D + 1) 18 86 [(0, .ref 0)] [] m (mcQ m (.inl (c, p))) := by
  refine w18_86 xs D m _ ⟨fun _ => ⟨KD.re m, by rw [h10], hc, h10, h11, h12⟩, fun u => absurd (h10.symm.trans u) hc⟩
theorem c18b (xs : List Int32) (D : Nat) {m0 : yM} {T : Nat} {F : List ND} {s : SU} {m : yM} (h : HB m0 T F s) (hc : CR F s.1 m) (hb : BA s.1 m) (hz : Z27 s.1 m) (h10 : m.1 0 10 = 0) (h12 : m.1 0 12 = 0) : yP (xg xs) (D + 569) 18 71 [(0, .ref 0)] [] m (mcQ m (oRl F s)) := by
  have hB := hc.nB
  have fl : ∀ {Q : Option Value → yM → Prop} (m1 : yM) (c p : Int32), ¬ c = 0 → KD m m1 → m1.1 0 11 = p → m1.1 0 12 = 0 → oRl F s = .inl (c, p) → yP (xg xs) (D + 569) 18 86 [(0, .ref 0)] [] (y_si m1 0 10 c) (mcQ m (oRl F s)) := by
    intro Q m1 c p c0 k e11 e12 eo
    rw [eo]
    refine yP.mono (Nat.le_refl _) (fun r m' q => mcQ.tr (k.s (by omega)) q) (c18f xs (D + 568) (c := c) (p := p) c0 (y_si_same _ _ _ _) ?_ ?_)
    · rw [y_si_at, if_neg (by omega)]; exact e11
    · rw [y_si_at, if_neg (by omega)]; exact e12
  refine w18_71 xs (D + 568) m _ ⟨fun u => absurd h10 u, fun _ => ?_⟩
  refine w188_0 xs (D + 567) m _ ⟨fun u => ?_, fun u => ?_⟩
  · rw [hB.1] at u
    have h16 : s.1.1.length ≤ 16 := (nI_leI (b := 16) (by omega) (by omega)).mp u
    refine w189_0 xs (D + 566) _ _ ⟨rfl, ?_⟩
    generalize hm1 : y_si (y_si (y_si m 0 11 0) 35 6 0) 35 7 0 = m1
    have k1 : KD m m1 := by rw [← hm1]; exact (((KD.re m).s (by omega)).s (by omega)).s (by omega)
    have g1 : ∀ a i, 0 < a → a < 35 → m1.1 a i = m.1 a i := fun a i x y => by rw [← hm1, y_si_at, if_neg (by omega), y_si_at, if_neg (by omega), y_si_at, if_neg (by omega)]
    have e11 : m1.1 0 11 = 0 := by rw [← hm1, y_si_at, if_neg (by omega), y_si_at, if_neg (by omega), y_si_same]
    have e12 : m1.1 0 12 = 0 := by rw [← hm1, y_si_at, if_neg (by omega), y_si_at, if_neg (by omega), y_si_at, if_neg (by omega)]; exact h12
    have e6 : m1.1 35 6 = nI 0 := by rw [← hm1, y_si_at, if_neg (by omega), y_si_same]; rfl
    have e7 : m1.1 35 7 = nI 0 := by rw [← hm1, y_si_same]; rfl
    clear hm1
    have c1 : CR F s.1 m1 := hc.e0 (fun a i x y => g1 a i (by omega) (by omega))
    have lA := allC_l (J := ([], [], F, id)) h.1.1 hc.nV.2 h.2.1 h16
    have hm := h.m h16
    refine c188w xs D h.1.1 h16 lA c1 (fun m2 cu k2 => ⟨fun sm => ?_, fun bg => ?_⟩) s.1.1.length 0 m1 (by omega) ⟨e6, by show 0 < _; decide, fun _ i x e => by cases e⟩ e7 (fun i hi => absurd hi (Nat.not_lt_zero _)) ⟨fun _ _ _ => rfl, rfl⟩
    · have c2 : CR F s.1 m2 := c1.ek (fun a i x => k2.1 a i (by omega))
      have no : ¬ (16 < s.1.1.length ∨ 3000 < (allC F s.1 186 s.1.1.length).length) := by omega
      refine c188m xs (D + 563) (J := ([], [], F, id)) hm sm c2 cu s.1.1.length 0 (fun _ => 0) m2 (by omega) (KMc.re m2) (fun x hx => absurd hx (Nat.not_lt_zero _)) ?_
      show match msr F s.1 s.1.1.length 0 (fun _ => 0) with
        | .inl B' => _
        | .inr (c, b') => _
      have eo : oRl F s = match msr F s.1 s.1.1.length 0 (fun _ => 0) with
        | .inr (c, b) => .inl (c, plF F (nB s b))
        | .inl B => .inr (F, s, B) := by unfold oRl; rw [if_neg no]
      rcases hms : msr F s.1 s.1.1.length 0 (fun _ => 0) with B | ⟨c, b⟩
      · rw [hms] at eo
        dsimp only at eo ⊢
        intro m3 k3 q3
        refine ⟨0, rfl, ?_⟩
        have k13 : KD m m3 := (k1.tr (KD.g k2)).tr (KD.m k3)
        have g3 : ∀ a i, 0 < a → a < 35 → m3.1 a i = m.1 a i := fun a i x y => by rw [k3.1 a i (by omega) (by omega) (by omega) (by omega), k2.1 a i (by omega), g1 a i x y]
        have cm3 : CM F s B m3 := ⟨hc.e0 (fun a i x y => g3 a i (by omega) (by omega)), hb.g (fun a i x y => g3 a i (by omega) (by omega)), hz.g (fun a i x y => g3 a i (by omega) (by omega)), cu.kmc k3, q3⟩
        refine w18_86 xs (D + 568) _ _ ⟨fun w => absurd (y_si_same _ _ _ _) w, fun _ => ?_⟩
        generalize hm4 : y_si (y_si (y_si m3 0 10 0) 0 11 (-1)) 0 12 1 = m4
        have g4 : ∀ a i, 0 < a → m4.1 a i = m3.1 a i := fun a i x => by rw [← hm4, y_si_at, if_neg (by omega), y_si_at, if_neg (by omega), y_si_at, if_neg (by omega)]
        have k4 : KD m m4 := by rw [← hm4]; exact ((k13.s (by omega)).s (by omega)).s (by omega)
        have f10 : m4.1 0 10 = 0 := by rw [← hm4, y_si_at, if_neg (by omega), y_si_at, if_neg (by omega), y_si_same]
        have f11 : m4.1 0 11 = -1 := by rw [← hm4, y_si_at, if_neg (by omega), y_si_same]
        have f12 : m4.1 0 12 = 1 := by rw [← hm4, y_si_same]
        clear hm4
        have cm4 : CM F s B m4 := cm3.g (fun a i x y => g4 a i (by omega))
        refine yC.mono (by omega) (fun r m5 q => ?_) (c231 xs (D + 549) (h.p h16) cm4.1 cm4.2.1 cm4.2.2.1)
        obtain ⟨p1, p2, p3, p4, p5, p6⟩ := q
        refine ⟨p1, ?_⟩
        have k5 : KD m m5 := k4.tr ⟨fun a i z => p3 a i (by omega) (by omega), fun a z => by rw [p2]⟩
        rw [eo]
        have z10 := p3 0 10 (by omega) (by omega)
        refine ⟨k5, by rw [z10, f10], z10.trans f10, (p3 0 11 (by omega) (by omega)).trans f11, (p3 0 12 (by omega) (by omega)).trans f12, cm4.g (fun a i x y => p3 a i (by omega) (by omega)), p4, p5, p6⟩
      · rw [hms] at eo
        dsimp only at eo ⊢
        intro m3 k3
        refine ⟨c, rfl, ?_⟩
        have k13 : KD m m3 := (k1.tr (KD.g k2)).tr (KD.m k3)
        refine fl (Q := fun _ _ => True) _ c (plF F (nB s b)) ?_ (k13.s (by omega)) (y_si_same _ _ _ _) ?_ eo
        · rcases msr_ne F s.1 _ _ _ c b hms with e | e <;> rw [e] <;> decide
        · rw [y_si_at, if_neg (by omega), k3.1 0 12 (by omega) (by omega) (by omega) (by omega), k2.1 0 12 (by omega), e12]
    · refine ⟨50, rfl, fl (Q := fun _ _ => True) m2 50 0 (by decide) (k1.tr (KD.g k2)) ?_ ?_ ?_⟩
      · rw [k2.1 0 11 (by omega), e11]
      · rw [k2.1 0 12 (by omega), e12]
      · unfold oRl
        rw [if_pos (Or.inr bg)]
  · rw [hB.1] at u
    have h16 : 16 < s.1.1.length := by
      apply Nat.lt_of_not_le
      intro z
      exact u (nI_le (b := 16) z (by omega))
    refine ⟨50, rfl, fl (Q := fun _ _ => True) _ 50 0 (by decide) ((KD.re m).s (by omega)) (y_si_same _ _ _ _) ?_ ?_⟩
    · rw [y_si_at, if_neg (by omega)]; exact h12
    · unfold oRl
      rw [if_pos (Or.inl h16)]
