/-! RUN: both answer alike, if the pure machine is safe and keeps the bound -/
def bsF (σ : RS) (g : Nat) : Option Nat := if g < σ.1.length - 1 ∧ (σ.1.getD g dBK).1 = 1 then some (bsN σ g) else none
/-- what is left to be shown of the pure machine -/
def RunOk : Prop := ∀ (m0 : yM) (T : Nat) (F : List ND) (s : SU) (B : Nat → Int) (now : Int32) (M : Nat → Int32), HB m0 T F s → oRl F s = .inr (F, s, B) → B (s.1.1.length - 1) ≤ 50000 → ∃ f R, exU (unC F s.1 186) (bsF s.1) now f (s.1.1.length - 1) 0 0 [] M 0 = some R ∧ (∀ r, R = .inl r → r.2.2 ≤ 50000) ∧ ∀ r, R = .inr r → r.2.2 ≤ 50000
theorem CCd_of {m0 : yM} {T : Nat} {F : List ND} {s : SU} {B : Nat → Int} {m : yM} (hb : HB m0 T F s) (ho : oRl F s = .inr (F, s, B)) (h : CM F s B m) : CCd (unC F s.1 186) (bsF s.1) s.1.1.length (fun u => (allC F s.1 186 u).length) m := by
  obtain ⟨-, -, h16, hz, -⟩ := oRl_i ho
  obtain ⟨cr, ba, z27, cu, -⟩ := h
  have hp := hb.p h16
  have mk := allC_0 hb.1.1 s.1.1.length (Nat.le_refl _)
  refine ⟨h16, fun u hu => ?_, fun u hu => ?_, ⟨cu.2.1, cu.1.1, cu.2.2⟩, fun u hu i x hx => ?_, fun g q e => ?_⟩
  · show (allC F s.1 186 u ++ unC F s.1 186 u).length = _
    rw [List.length_append]
  · have := allC_le F s.1 186 (s.1.1.length - u) u
    rw [show u + (s.1.1.length - u) = s.1.1.length by omega] at this
    exact Nat.le_trans this hz
  · have e := un_at F s.1 hu hx
    obtain ⟨a1, a2, a3, a4⟩ := cu.1.2.2 hz _ x e
    refine ⟨a1, ?_, a3, a4⟩
    rw [a2]
    unfold caV
    rw [if_pos (mk x (List.mem_of_getElem? e))]
  · unfold bsF at e
    split at e
    · rename_i p
      rw [← Option.some.inj e, ba.2 g p.1 p.2]
      exact ⟨by omega, (hp.n g (by omega)).1⟩
    · cases e
theorem RCd_of {m0 : yM} {T : Nat} {F : List ND} {s : SU} {B : Nat → Int} {m : yM} (hb : HB m0 T F s) (ho : oRl F s = .inr (F, s, B)) (h : RMm F s B m) : RCd (unC F s.1 186) (bsF s.1) s.1.1.length (fun u => (allC F s.1 186 u).length) m := by
  obtain ⟨-, -, h16, hz, -⟩ := oRl_i ho
  obtain ⟨J, rfl, ru, r73, r62, r74, r94⟩ := h
  have hp := hb.p h16
  have mk := allC_0 hb.1.1 s.1.1.length (Nat.le_refl _)
  refine ⟨h16, fun u hu => ?_, fun u hu => ⟨?_, ru.2.2 hz u hu⟩, fun u hu i x hx => ?_, fun g q e => ?_⟩
  · show (allC J.2.2.1 s.1 186 u ++ unC J.2.2.1 s.1 186 u).length = _
    rw [List.length_append]
  · have := allC_le J.2.2.1 s.1 186 (s.1.1.length - u) u
    rw [show u + (s.1.1.length - u) = s.1.1.length by omega] at this
    exact Nat.le_trans this hz
  · have e := un_at J.2.2.1 s.1 hu hx
    obtain ⟨a1, a2, a3, a4, -⟩ := (ru.2.1.1 hz).2.2 _ x e
    refine ⟨a1, ?_, a3, a4⟩
    rw [a2]
    unfold raV
    rw [if_pos (mk x (List.mem_of_getElem? e))]
  · unfold bsF at e
    split at e
    · rename_i p
      rw [← Option.some.inj e, r74 g p.1]
      exact ⟨by omega, (hp.n g (by omega)).1, hp.le (by omega)⟩
    · cases e
