/-! MAKE: both answer alike -/
theorem st_allC (F : List ND) (σ : RS) (i : Nat) : (allC F σ 186 i).length ≤ (allC F σ 186 (i + 1)).length := by
  show _ ≤ (allC F σ 186 i ++ unC F σ 186 i).length
  rw [List.length_append]
  omega
/-- what was made shows alike -/
theorem Rm.h1 {m0 : yM} {T : Nat} {F : List ND} {s : SU} {B : Nat → Int} {m : yM} (hb : HB m0 T F s) (ho : oRl F s = .inr (F, s, B)) (hc : CM F s B m) (hr : RMm F s B m) (e1 : m.1 52 2 = m.1 58 65) (e2 : m.1 52 1 = m.1 58 64) (e3 : ∀ i, i < 8192 → m.1 53 i = m.1 98 i) : Rh1 m := by
  obtain ⟨-, -, h16, hz, -⟩ := oRl_i ho
  obtain ⟨J, rfl, ru, r73, r62, r74, r94⟩ := hr
  obtain ⟨cr, ba, z27, cu, c41⟩ := hc
  have hp := hb.p h16
  obtain ⟨l1, l2, l3⟩ := hp.l
  have bl := hp.le (b := s.1.1.length - 1) (by omega)
  have bn := (hp.n (s.1.1.length - 1) (by omega)).1
  obtain ⟨ro1, ro2, ro3⟩ := ru.2.1.1 hz
  have m0' := allC_0 hb.1.1 s.1.1.length (Nat.le_refl _)
  refine ⟨s.1.1.length, (allC J.2.2.1 s.1 186 s.1.1.length).length, bsN s.1 (s.1.1.length - 1), fun i => (allC J.2.2.1 s.1 186 i).length, l1, h16, cu.2.1, ru.1.b.1.2.2.2.1, hz, cu.1.1, ro1, bl, by rw [ba.1, bn], by rw [r62, bn], e1, e2, ?_, fun i hi => ⟨cu.2.2 i hi, ru.2.2 hz i (by omega), st_allC _ _ _⟩, rfl, ru.2.2 hz _ (Nat.le_refl _), fun i hi => ?_, e3⟩
  · exact l64_32 ((r94 _ (by omega)).trans (c41 _ (by omega)).2.symm)
  · obtain ⟨x, hx⟩ : ∃ x, (allC J.2.2.1 s.1 186 s.1.1.length)[i]? = some x := ⟨_, List.getElem?_eq_getElem hi⟩
    obtain ⟨a1, a2, a3, a4⟩ := cu.1.2.2 hz i x hx
    obtain ⟨b1, b2, b3, b4, -⟩ := ro3 i x hx
    have k0 := m0' x (List.mem_of_getElem? hx)
    rw [a1, a2, a3, a4, b1, b2, b3, b4]
    unfold caV raV
    rw [if_pos k0, if_pos k0]
    exact ⟨rfl, rfl, rfl, rfl⟩
theorem oMk_i {X : PX} {F : List ND} {s : SU} {B : Nat → Int} (h : oMk X = .inr (F, s, B)) : ∃ t o, X = .inl (t, o, F) ∧ jn F 187 [] 0 (sg0 F) = .inl s ∧ oRl F s = .inr (F, s, B) := by
  rcases X with ⟨t, o, G⟩ | ⟨c, p⟩
  · have h : (match jn G 187 [] 0 (sg0 G) with
      | .inr (c, k) => .inl (c, plF G k)
      | .inl s => oRl G s) = (.inr (F, s, B) : MO) := h
    rcases ej : jn G 187 [] 0 (sg0 G) with s1 | ⟨c, k⟩
    · rw [ej] at h
      have h : oRl G s1 = .inr (F, s, B) := h
      obtain ⟨rfl, rfl, -⟩ := oRl_i h
      exact ⟨t, o, rfl, ej, h⟩
    · rw [ej] at h
      cases h
  · cases h
theorem op_make (xs : List Int32) (D : Nat) : opOk xs (D + 714) (fun m => InT RoM m ∧ BY1 m) (InT RoM) 18 269 [] := by
  rintro m ⟨⟨⟨n, h1, h2, h3, h4⟩, ho⟩, hb⟩
  have hf : ∀ i, i < n → (m.1 1 i).toInt8.toUInt8.toNat < 256 ∧ m.1 1 i = (nI (m.1 1 i).toInt8.toUInt8.toNat).toInt8.toInt32 := fun i _ => by_f (hb.t i)
  refine yC.mono (by omega) (fun r m1 q => ?_) (c18 xs (D + 145) (f := fun i => (m.1 1 i).toInt8.toUInt8.toNat) h3 h1 hf ho.2.1)
  obtain ⟨mT, T, Ns, N, k, X, mt, eX, kd, q⟩ := q
  have mtg := mt.2.2.2.2.2.2.2.2.1
  have mt2 := mt.2.2.2.2.2.2.2.2.2
  have ni := mt.2.2.2.2.2.2.1
  have g1 : ∀ a i, 57 < a ∨ a = 1 ∨ (a = 0 ∧ i = 9) → m1.1 a i = m.1 a i := fun a i z => (kd.1 a i (by omega)).trans (mtg a i z)
  have z14 : m1.1 14 0 = 0 := by
    rw [kd.1 14 0 (by omega), ni.2.2.1 0 (Nat.zero_le _)]
    rfl
  have ref := c269 xs D (m := m1) mt eX (by rw [g1 58 2 (by omega)]; exact h2) (fun i hi => by rw [g1 59 i (by omega), ← h4 i hi]; exact (hf i hi).2) (by rw [g1 61 0 (by omega)]; exact ho.2.2.1) (ho.2.2.2.1.q (fun a i x y => g1 a i (by omega)))
  have fin : ∀ m2, KE m1 m2 → RoM m2 → InT RoM m2 := fun m2 ke hR => by
    refine ⟨⟨n, ?_, ?_, h3, fun i hi => ?_⟩, hR⟩
    · rw [ke.1 0 9 (by omega), g1 0 9 (by omega)]; exact h1
    · rw [ke.1 58 2 (by omega), g1 58 2 (by omega)]; exact h2
    · rw [ke.1 1 i (by omega), ke.1 59 i (by omega), g1 1 i (by omega), g1 59 i (by omega)]; exact h4 i hi
  rcases hX : oMk X with ⟨c, p⟩ | ⟨F, s, B⟩
  · rw [hX] at q ref
    obtain ⟨rfl, q1, q2, q3, q4⟩ := q
    refine ⟨c, rfl, yC.mono (Nat.le_refl _) (fun r2 m2 w => ?_) ref⟩
    obtain ⟨ke, w1, w2, rfl, w3, w4, w5⟩ := w
    have e12 : m2.1 0 12 = 0 := (ke.1 0 12 (by omega)).trans q4
    refine ⟨rfl, fin m2 ke ⟨⟨?_, ?_, ?_, Or.inl e12, fun z => absurd e12 z⟩, ?_, w1, w2, fun z => absurd e12 z⟩⟩
    · rw [ke.1 0 10 (by omega), q2, w3]
    · rw [ke.1 0 11 (by omega), q3, w4]
    · rw [e12, w5]
    · rw [ke.1 14 0 (by omega)]; exact z14
  · rw [hX] at q ref
    obtain ⟨rfl, q1, q2, q3, q4, q5, q6, q7⟩ := q
    refine ⟨0, rfl, yC.mono (Nat.le_refl _) (fun r2 m2 w => ?_) ref⟩
    obtain ⟨ke, w1, w2, rfl, w3, w4, w5, w6, w7, w8, w9⟩ := w
    obtain ⟨t, o, rfl, ej, eo⟩ := oMk_i hX
    obtain ⟨hF, hN, hW, hz⟩ := HF_of (mt.en mT) mt.ok eX
    have hbb := HB_of mt.ok eX hF hN hW hz ej
    have cm2 : CM F s B m2 := q4.g (fun a i x y => ke.1 a i (by omega))
    have e12 : m2.1 0 12 = 1 := (ke.1 0 12 (by omega)).trans q3
    have ne : ¬ m2.1 0 12 = 0 := by rw [e12]; decide
    refine ⟨rfl, fin m2 ke ⟨⟨?_, ?_, ?_, Or.inr e12, fun _ => Rm.h1 hbb eo cm2 w6 ?_ ?_ (fun i hi => ?_)⟩, ?_, w1, w2, fun _ => ⟨mT, T, F, s, B, hbb, eo, cm2, w6⟩⟩⟩
    · rw [ke.1 0 10 (by omega), q1, w3]
    · rw [ke.1 0 11 (by omega), q2, w4]
    · rw [e12, w5]
    · rw [ke.1 52 2 (by omega), q6, w8]
    · rw [ke.1 52 1 (by omega), q5, w7]
    · rw [ke.1 53 i (by omega), q7 i hi, w9 i hi]
    · rw [ke.1 14 0 (by omega)]; exact z14
theorem RoM_0 : InT RoM y_m0 := by
  refine ⟨⟨0, rfl, rfl, by omega, fun i hi => absurd hi (Nat.not_lt_zero _)⟩, ⟨rfl, rfl, rfl, Or.inl rfl, fun z => absurd rfl z⟩, rfl, rfl, fun a _ => Or.inr rfl, fun z => absurd rfl z⟩
