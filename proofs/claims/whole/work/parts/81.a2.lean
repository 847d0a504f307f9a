/-! MAKE: the class -/
/-- the tokens of a text, in the class's memory -/
def MT (m : yM) (f : Nat → Nat) (n : Nat) (mT : yM) (T : Nat) (Ns : List (List Int32)) : Prop := n ≤ 8192 ∧ (∀ i, i < n → f i < 256) ∧ T ≤ n ∧ isEnd f n T ∧ (∀ i, i < T → ¬ isEnd f n i) ∧ (∀ i, i ≤ T → TkA mT Ns f n i) ∧ NI mT Ns ∧ KN <+: Ns ∧ (∀ a i, 57 < a ∨ a = 1 ∨ (a = 0 ∧ i = 9) → mT.1 a i = m.1 a i) ∧ mT.2 = m.2
theorem MT.ok {m mT : yM} {f : Nat → Nat} {n T : Nat} {Ns : List (List Int32)} (h : MT m f n mT T Ns) : TKok mT T := tk_ok (by have := h.1; have := h.2.2.1; omega) h.2.2.2.1 h.2.2.2.2.1 h.2.2.2.2.2.1
theorem MT.en {m mT : yM} {f : Nat → Nat} {n T : Nat} {Ns : List (List Int32)} (h : MT m f n mT T Ns) (mR : yM) : EN (mT, mR, f, n, T) Ns := by
  obtain ⟨h1, h2, h3, h4, h5, h6, h7, h8, -, -⟩ := h
  exact ⟨h8, h7.2.2.2.2.2.2.2, h7.2.1, h1, h2, h5, h6⟩
theorem MT.eok {m mT : yM} {f : Nat → Nat} {n T : Nat} {Ns : List (List Int32)} (h : MT m f n mT T Ns) (mR : yM) : EOk (mT, mR, f, n, T) := by
  have ok := h.ok
  obtain ⟨h1, h2, h3, h4, h5, h6, h7, h8, -, -⟩ := h
  exact ⟨ok, h1, h4, h5, h2, Ns, h8, h7.2.2.2.2.2.2.2, h6⟩
theorem KD.d {m m' : yM} (h : Kd m m') : KD m m' := ⟨fun a i z => by rw [h.1 a (by omega)], fun a _ => by rw [h.2]⟩
theorem KD.c {m m' : yM} (h : CK m m') : KD m m' := ⟨fun a i z => h.1 a i (by omega), fun a _ => by rw [h.2]⟩
theorem TF.s0 {F : List ND} {m : yM} (h : TF F m) {j : Nat} {v : Int32} : TF F (y_si m 0 j v) := by
  have g : ∀ a i, 0 < a → (y_si m 0 j v).1 a i = m.1 a i := fun a i z => by rw [y_si_at, if_neg (by omega)]
  obtain ⟨z, z1, z2, z3⟩ := h
  refine ⟨z, by rw [g _ _ (by omega)]; exact z1, ⟨z2.1, fun i hi => by rw [g _ _ (by omega)]; exact z2.2 i hi⟩, fun hl => ?_⟩
  obtain ⟨e, q⟩ := z3 hl
  refine ⟨e, fun i x hx => ?_⟩
  rw [g _ _ (by omega), g _ _ (by omega), g _ _ (by omega), g _ _ (by omega)]
  exact q i x hx
theorem c18 (xs : List Int32) (D : Nat) {m : yM} {f : Nat → Nat} {n : Nat} (hn : n ≤ 8192) (h9 : m.1 0 9 = nI n) (hf : ∀ i, i < n → f i < 256 ∧ m.1 1 i = (nI (f i)).toInt8.toInt32) (hst : m.1 14 0 = 0) : yC (xg xs) (D + 569) 18 [.ref 0] m (fun r m' => ∃ (mT : yM) (T : Nat) (Ns : List (List Int32)) (N k : Nat) (X : PX), MT m f n mT T Ns ∧ p_text mT N k = some X ∧ mcQ mT (oMk X) r m') := by
  refine w18_0 xs (D + 568) m _ ?_
  rw [h9]
  have s1 : ∀ i, (y_si m 0 12 0).1 1 i = m.1 1 i := fun i => by rw [y_si_at, if_neg (by omega)]
  refine yC.mono (by omega) (fun r mT q => ?_) (c19 xs (D + 562) (y_si m 0 12 0) (f := f) hn (fun i hi => by rw [s1]; exact hf i hi) (by rw [y_si_at, if_neg (by omega)]; exact hst))
  obtain ⟨q0, T, Ns, q1, q2, q3, q4, q5, q6, q7, q8⟩ := q
  refine ⟨q0, ?_⟩
  have mt : MT m f n mT T Ns := by
    refine ⟨hn, fun i hi => (hf i hi).1, q1, q2, q3, q4, q5, q6, fun a i z => ?_, q8⟩
    rw [q7 a (by omega), y_si_at, if_neg (by omega)]
  have t12 : mT.1 0 12 = 0 := by rw [q7 0 (by omega), y_si_same]
  have ok := mt.ok
  obtain ⟨N, k, X, eX⟩ := p_text_ex ok
  refine yC.mono (by unfold dA; omega) (fun r m2 q => ?_) (c71 xs (D + 374) ok eX)
  obtain ⟨kd, q⟩ := q
  have o12 : m2.1 0 12 = 0 := by rw [kd.1 0 (by omega)]; exact t12
  have up : ∀ {O : MO} {pc : Nat} {m3 : yM}, KD mT m3 → oMk X = O → yP (xg xs) (D + 569) 18 pc [(0, .ref 0)] [] m3 (mcQ m3 O) → yP (xg xs) (D + 569) 18 pc [(0, .ref 0)] [] m3 (fun r m' => ∃ (mT : yM) (T : Nat) (Ns : List (List Int32)) (N k : Nat) (X : PX), MT m f n mT T Ns ∧ p_text mT N k = some X ∧ mcQ mT (oMk X) r m') := by
    intro O pc m3 k3 e3 h3
    refine yP.mono (Nat.le_refl _) (fun r m' q => ⟨mT, T, Ns, N, k, X, mt, eX, ?_⟩) h3
    rw [e3]
    exact q.tr k3
  have fl : ∀ (m3 : yM) (c p : Int32), ¬ c = 0 → KD mT m3 → m3.1 0 12 = 0 → oMk X = .inl (c, p) → yP (xg xs) (D + 569) 18 71 [(0, .ref 0)] [] (y_si (y_si m3 0 10 c) 0 11 p) (fun r m' => ∃ (mT : yM) (T : Nat) (Ns : List (List Int32)) (N k : Nat) (X : PX), MT m f n mT T Ns ∧ p_text mT N k = some X ∧ mcQ mT (oMk X) r m') := by
    intro m3 c p c0 k3 e12 eo
    have e10 : (y_si (y_si m3 0 10 c) 0 11 p).1 0 10 = c := by rw [y_si_at, if_neg (by omega), y_si_same]
    refine w18_71 xs (D + 568) _ _ ⟨fun _ => ?_, fun u => absurd (e10.symm.trans u) c0⟩
    refine up (O := .inl (c, p)) ((k3.s (by omega)).s (by omega)) eo (c18f xs (D + 568) c0 e10 (y_si_same _ _ _ _) ?_)
    rw [y_si_at, if_neg (by omega), y_si_at, if_neg (by omega)]
    exact e12
  rcases X with ⟨t, o, F⟩ | ⟨c, p⟩
  · obtain ⟨rfl, tf⟩ := q
    refine ⟨0, rfl, fun u => absurd rfl u, fun _ => ?_⟩
    obtain ⟨hF, hN, hW, hz⟩ := HF_of (mt.en mT) ok eX
    have len := (p_text_len ok eX).1
    have tf2 : TF F (y_si (y_si m2 0 10 0) 0 11 (m2.1 17 0)) := tf.s0.s0
    have k2 : KD mT (y_si (y_si m2 0 10 0) 0 11 (m2.1 17 0)) := ((KD.d kd).s (by omega)).s (by omega)
    have v12 : (y_si (y_si m2 0 10 0) 0 11 (m2.1 17 0)).1 0 12 = 0 := by rw [y_si_at, if_neg (by omega), y_si_at, if_neg (by omega)]; exact o12
    generalize y_si (y_si m2 0 10 0) 0 11 (m2.1 17 0) = m3 at tf2 k2 v12 ⊢
    refine yC.mono (by omega) (fun r m4 q => ?_) (c110ry xs (D + 561) tf2 len hW hz hF.2.2.1 (M := 187) (by omega) (jp_of hF hN hW))
    obtain ⟨q, zq⟩ := q
    have eo : oMk (.inl (t, o, F)) = match jn F 187 [] 0 (sg0 F) with
      | .inr (c, k) => .inl (c, plF F k)
      | .inl s => oRl F s := rfl
    rcases ej : jn F 187 [] 0 (sg0 F) with s | ⟨c, k⟩
    · rw [ej] at q eo zq
      dsimp only at eo
      obtain ⟨rfl, ⟨j1, j2, j3, j4, j5⟩, j6⟩ := q
      refine ⟨0, rfl, ?_⟩
      have w0 : ∀ a i, 0 < a → (y_si (y_si m4 0 10 0) 0 11 (m4.1 31 0)).1 a i = m4.1 a i := fun a i z => by rw [y_si_at, if_neg (by omega), y_si_at, if_neg (by omega)]
      refine up (((k2.tr (KD.c j5)).s (by omega)).s (by omega)) eo (c18b xs D (HB_of ok eX hF hN hW hz ej) (j1.e0 (fun a i x _ => w0 a i (by omega))) (j6.g (fun a i x _ => w0 a i (by omega))) ((zq s rfl).g (fun a i x _ => w0 a i (by omega))) ?_ ?_)
      · rw [y_si_at, if_neg (by omega), y_si_same]
      · rw [y_si_at, if_neg (by omega), y_si_at, if_neg (by omega), j5.1 0 12 (by omega)]
        exact v12
    · rw [ej] at q eo
      dsimp only at eo
      obtain ⟨rfl, j1, j2, j3, j4⟩ := q
      refine ⟨c, rfl, ?_⟩
      rw [j3]
      exact fl m4 c _ j2 (k2.tr (KD.c j4)) (by rw [j4.1 0 12 (by omega)]; exact v12) eo
  · obtain ⟨rfl, q1, q2⟩ := q
    refine ⟨c, rfl, fun _ => ?_, fun u => absurd u q2⟩
    rw [q1]
    exact fl m2 c p q2 (KD.d kd) o12 rfl
