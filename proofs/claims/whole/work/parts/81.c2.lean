/-! MAKE: the reference -/
/-- what its make leaves alone -/
def KE (m m' : yM) : Prop := (∀ a i, a < 58 ∨ a = 59 ∨ (a = 58 ∧ i = 2) → m'.1 a i = m.1 a i) ∧ ∀ a, a < 58 → m'.2 a = m.2 a
theorem KE.re (m : yM) : KE m m := ⟨fun _ _ _ => rfl, fun _ _ => rfl⟩
theorem KE.tr {m m1 m2 : yM} (h : KE m m1) (h2 : KE m1 m2) : KE m m2 := ⟨fun a i z => (h2.1 a i z).trans (h.1 a i z), fun a z => (h2.2 a z).trans (h.2 a z)⟩
theorem KE.s {m m1 : yM} (h : KE m m1) {j : Nat} {v : Int32} (hj : ¬ j = 2) : KE m (y_si m1 58 j v) := ⟨fun a i z => by rw [y_si_at, if_neg (by omega)]; exact h.1 a i z, h.2⟩
theorem KE.n {m m' : yM} (h : NK m m') : KE m m' := by
  refine ⟨fun a i z => ?_, fun a _ => by rw [h.2.2]⟩
  by_cases e : a = 58
  · rw [e]; exact h.2.1 i (by omega)
  · exact h.1 a i e (by omega)
theorem KE.x {m m' : yM} (h : JX m m') : KE m m' := by
  refine ⟨fun a i z => ?_, fun a _ => by rw [h.2.2]⟩
  by_cases e : a = 58
  · rw [e]; exact h.2.1 i (by omega)
  · exact h.1 a i e (by omega)
theorem KE.v {m m' : yM} (h : KV m m') : KE m m' := by
  refine ⟨fun a i z => ?_, fun a z => h.2.2 a z⟩
  by_cases e : a = 58
  · rw [e]; exact h.2.1 i (by omega)
  · exact h.1 a i (by omega) e
theorem KE.t {m m' : yM} (h : KT m m') : KE m m' := ⟨fun a i z => h.2 a i (by omega) (by omega) (by omega), fun a _ => by rw [h.1]⟩
/-- names and nodes are kept -/
def KQ (m m' : yM) : Prop := ∀ a i, 59 < a → a < 70 → m'.1 a i = m.1 a i
theorem GI.q {m m' : yM} (h : GI m) (k : KQ m m') : GI m' := fun a ha => by rw [k 66 a (by omega) (by omega), k 67 a (by omega) (by omega)]; exact h a ha
/-- what stays of what the reference made -/
def RMm (F : List ND) (s : SU) (B : Nat → Int) (m : yM) : Prop := ∃ J : JV, J.2.2.1 = F ∧ RU J s m ∧ m.1 73 s.1.1.length = nI s.1.2.1.length ∧ m.1 58 62 = bsA s.1 (s.1.1.length - 1) ∧ (∀ b, b < s.1.1.length - 1 → m.1 74 b = bsA s.1 b) ∧ ∀ x, x < s.1.1.length → (m.2 94 x).toInt = B x
def mrQ (m : yM) (X : MO) (r : Option Value) (m' : yM) : Prop := KE m m' ∧ m'.1 61 0 = 0 ∧ GI m' ∧ match X with
  | .inl (c, p) => r = some (.int c) ∧ m'.1 58 3 = c ∧ m'.1 58 4 = p ∧ m'.1 58 61 = 0
  | .inr (F, s, B) => r = some (.int 0) ∧ m'.1 58 3 = 0 ∧ m'.1 58 4 = -1 ∧ m'.1 58 61 = 1 ∧ RMm F s B m' ∧ m'.1 58 64 = 0 ∧ m'.1 58 65 = 0 ∧ ∀ x, x < 8192 → m'.1 98 x = pmF s.1 x
theorem p_text_0 {m0 : yM} {N n t o : Nat} {F : List ND} (e : p_text m0 N n = some (.inl (t, o, F))) : plF F 0 = 0 := by
  unfold p_text at e
  obtain ⟨G, e1, eF⟩ := pnode_some e
  rw [eF]
  rfl
theorem c269f (xs : List Int32) (D : Nat) {m m1 : yM} {c p l1 : Int32} (h3 : m1.1 58 3 = c) (hc : 0 < c) (h4 : m1.1 58 4 = p) (h61 : m1.1 58 61 = 0) (k : KE m m1) (hn : m1.1 61 0 = 0) (hg : GI m1) : yP (xg xs) (D + 1) 269 89 [(0, .ref 58)] [] m1 (mrQ m (.inl (c, p))) ∧ yP (xg xs) (D + 1) 269 77 [(0, .ref 58), (1, .int l1)] [] m1 (mrQ m (.inl (c, p))) := by
  have hc' : (0 : Int) < c.toInt := Int32.lt_iff_toInt_lt.mp hc
  have ne : ¬ m1.1 58 3 = 0 := fun z => by
    rw [h3] at z
    rw [z] at hc'
    exact absurd hc' (by decide)
  have nle : ¬ m1.1 58 3 ≤ 0 := fun z => by
    rw [h3] at z
    have := Int32.le_iff_toInt_le.mp z
    have e0 : (0 : Int32).toInt = 0 := rfl
    omega
  have a : yP (xg xs) (D + 1) 269 89 [(0, .ref 58)] [] m1 (mrQ m (.inl (c, p))) := w269_89 xs D m1 _ ⟨fun z => absurd z nle, fun _ => ⟨k, hn, hg, by rw [h3], h3, h4, h61⟩⟩
  exact ⟨a, w269_77 xs D _ m1 _ ⟨fun _ => a, fun z => absurd z ne⟩⟩
theorem c269 (xs : List Int32) (D : Nat) {mc mT m : yM} {f : Nat → Nat} {n T N k : Nat} {Ns : List (List Int32)} {X : PX} (mt : MT mc f n mT T Ns) (eX : p_text mT N k = some X) (h2 : m.1 58 2 = nI n) (h59 : ∀ i, i < n → m.1 59 i = (nI (f i)).toInt8.toInt32) (h61 : m.1 61 0 = 0) (hG : GI m) : yC (xg xs) (D + 714) 269 [.ref 58] m (mrQ m (oMk X)) := by
  have ok := mt.ok
  refine w269_0 xs (D + 713) m _ ?_
  generalize hmR : y_si (y_si (y_si (y_si (y_si (y_si (y_si (y_si (y_si (y_si (y_si (y_si m 58 0 0) 58 3 0) 58 4 (-1)) 58 5 0) 58 8 0) 58 12 0) 58 21 0) 58 22 0) 58 23 0) 58 30 0) 58 29 0) 58 61 0 = mR
  have kR : KE m mR := by
    rw [← hmR]
    exact ((((((((((((KE.re m).s (by omega)).s (by omega)).s (by omega)).s (by omega)).s (by omega)).s (by omega)).s (by omega)).s (by omega)).s (by omega)).s (by omega)).s (by omega)).s (by omega)
  have oR : ∀ a i, ¬ a = 58 → mR.1 a i = m.1 a i := fun a i z => by
    rw [← hmR]
    simp only [y_si_at]
    rw [if_neg (by omega), if_neg (by omega), if_neg (by omega), if_neg (by omega), if_neg (by omega), if_neg (by omega), if_neg (by omega), if_neg (by omega), if_neg (by omega), if_neg (by omega), if_neg (by omega), if_neg (by omega)]
  have r3 : mR.1 58 3 = 0 := by rw [← hmR]; simp [y_si_at]
  have r4 : mR.1 58 4 = -1 := by rw [← hmR]; simp [y_si_at]
  have r5 : mR.1 58 5 = 0 := by rw [← hmR]; simp [y_si_at]
  have r8 : mR.1 58 8 = 0 := by rw [← hmR]; simp [y_si_at]
  have r12 : mR.1 58 12 = 0 := by rw [← hmR]; simp [y_si_at]
  have r21 : mR.1 58 21 = 0 := by rw [← hmR]; simp [y_si_at]
  have r22 : mR.1 58 22 = 0 := by rw [← hmR]; simp [y_si_at]
  have r23 : mR.1 58 23 = 0 := by rw [← hmR]; simp [y_si_at]
  have r29 : mR.1 58 29 = 0 := by rw [← hmR]; simp [y_si_at]
  have r30 : mR.1 58 30 = 0 := by rw [← hmR]; simp [y_si_at]
  have r61 : mR.1 58 61 = 0 := by rw [← hmR]; simp [y_si_at]
  clear hmR
  have ty : TY mR f n := ⟨by rw [kR.1 58 2 (by omega)]; exact h2, mt.1, fun i hi => ⟨mt.2.1 i hi, by rw [oR 59 i (by omega)]; exact h59 i hi⟩⟩
  have gR : GI mR := hG.q (fun a i x y => oR a i (by omega))
  have rs : RRn (mT, mR, f, n, T) 0 0 0 [] mR := rd_start ty r3 r5 r8 r12 r21 r22 (by rw [oR 61 0 (by omega)]; exact h61) gR
  refine yC.mono (by unfold dR; omega) (fun r m1 q => ?_) (yC.f4 (y := 270) rfl rfl (fun _ => r4) (c270s xs D (E := (mT, mR, f, n, T)) (mt.eok mR) rs eX))
  obtain ⟨⟨nk, n61, gi, id, idl, rfl, q⟩, p4⟩ := q
  have k1 : KE m m1 := kR.tr (KE.n nk)
  have f61 : m1.1 58 61 = 0 := (nk.2.1 61 (by omega)).trans r61
  refine ⟨nI id, rfl, ?_⟩
  rcases X with ⟨t, o, F⟩ | ⟨c, p⟩
  rotate_left
  · obtain ⟨q1, q2, q3⟩ := q
    have ff := c269f xs (D + 713) (l1 := nI id) q1 q2 q3 f61 k1 n61 gi
    refine ⟨fun _ => ff.2, fun z => ?_⟩
    rw [q1] at z
    rw [z] at q2
    exact absurd q2 (by decide)
  · obtain ⟨q3, q65, q68, Rs, qR, ql, qo, qT⟩ := q
    refine ⟨fun z => absurd q3 z, fun _ => ?_⟩
    obtain ⟨hF, hN, hW, hz⟩ := HF_of (mt.en mR) ok eX
    have pl0 := p_text_0 eX
    obtain ⟨I, i0, jo, rx⟩ := rx_start (mt.en mR) ok eX q3 ((nk.2.1 23 (by omega)).trans r23) ((nk.2.1 29 (by omega)).trans r29) ((nk.2.1 30 (by omega)).trans r30) q65 q68 qR ql qo qT
    have eo : oMk (.inl (t, o, F)) = match jn F 187 [] 0 (sg0 F) with
      | .inr (c, k) => .inl (c, plF F k)
      | .inl s => oRl F s := rfl
    have cj := c321y xs (D + 327) (J := (Ns, Rs, F, I)) hF hN jo 187 [] 0 (sg0 F) m1 ⟨hW, rfl, fun p hp => by cases hp⟩ (PAll.z (fun j hj => hF.1.k hj)) ⟨rx, fun _ z => absurd z (Nat.lt_irrefl _)⟩
    have cj : yC (xg xs) (D + 327 + (2 * 187 + 12)) 321 [.ref 58, .int (nI (I 0))] m1 (JUy (Ns, Rs, F, I) [] 0 m1 (jn F 187 [] 0 (sg0 F))) := cj
    rw [i0] at cj
    refine yC.mono (by omega) (fun r m2 q => ?_) (yC.f4 (y := 321) rfl rfl p4 cj)
    obtain ⟨⟨rfl, jx, q⟩, p4⟩ := q
    have k2 : KE m m2 := k1.tr (KE.x jx)
    have g61 : m2.1 58 61 = 0 := (jx.2.1 61 (by omega)).trans f61
    have kq2 : KQ m1 m2 := fun a i x y => jx.1 a i (by omega) (by omega)
    have n61' : m2.1 61 0 = 0 := (kq2 61 0 (by omega) (by omega)).trans n61
    have gi2 : GI m2 := gi.q kq2
    refine ⟨rfl, ?_⟩
    rcases ej : jn F 187 [] 0 (sg0 F) with s | ⟨c, j⟩
    rotate_left
    · rw [ej] at q eo
      dsimp only at eo
      rw [eo]
      exact (c269f xs (D + 713) (l1 := nI id) q.1 q.2.1 q.2.2 g61 k2 n61' gi2).2
    · rw [ej] at q eo
      dsimp only at eo
      obtain ⟨rx2, ez⟩ := q
      have rx2 : RX (Ns, Rs, F, I) [] (0 + szF F 0) s m2 := rx2
      rw [Nat.zero_add, hz] at rx2
      have rw2 : RW (Ns, Rs, F, I) s m2 := rx2
      have hb := HB_of ok eX hF hN hW hz ej
      have hl := hb.2.2.2.2.2.2.2.1.2.1
      have e73 := ez (by simp) hl
      refine w269_77 xs (D + 713) _ m2 _ ⟨fun z => absurd rw2.b.1.1 z, fun _ => ?_⟩
      have c7 : yC (xg xs) (D + 145 + 568) 367 [.ref 58, .int (nI (I 0))] m2 (r7Q (Ns, Rs, F, I) s m2 (oRl F s)) := c367 xs (D + 145) (J := (Ns, Rs, F, I)) hb rw2 pl0
      rw [i0] at c7
      refine yC.mono (by omega) (fun r m3 q => ?_) (yC.f4 (y := 367) rfl rfl p4 c7)
      obtain ⟨⟨rfl, kv, q⟩, p4⟩ := q
      refine ⟨rfl, ?_⟩
      have k3 : KE m m3 := k2.tr (KE.v kv)
      have u61 : m3.1 58 61 = 0 := (kv.2.1 61 (by omega)).trans g61
      have kq3 : KQ m2 m3 := fun a i x y => kv.1 a i (by omega) (by omega)
      have n61'' : m3.1 61 0 = 0 := (kq3 61 0 (by omega) (by omega)).trans n61'
      have gi3 : GI m3 := gi2.q kq3
      rw [eo]
      rcases hX : oRl F s with ⟨c, p⟩ | ⟨F', s', B⟩
      · rw [hX] at q
        exact (c269f xs (D + 713) (l1 := nI id) q.1 q.2.1 q.2.2 u61 k3 n61'' gi3).1
      · rw [hX] at q
        obtain ⟨q3, ru, qB⟩ := q
        have sh : F' = F ∧ s' = s ∧ s.1.1.length ≤ 16 := by
          unfold oRl at hX
          split at hX
          · cases hX
          · rename_i no
            split at hX
            · cases hX
            · have e := Sum.inr.inj hX
              exact ⟨(congrArg Prod.fst e).symm, (congrArg (fun z => z.2.1) e).symm, by omega⟩
        obtain ⟨rfl, rfl, h16⟩ := sh
        have e73' : m3.1 73 s'.1.1.length = nI s'.1.2.1.length := (kv.1 73 _ (by omega) (by omega)).trans e73
        refine yP.mono (by omega) (fun r m4 q => ?_) (c269t xs (D + 697) (J := (Ns, Rs, F', I)) (hb.p h16) ru.1 e73')
        obtain ⟨t1, t2, t3, t4, t5, t6, t7, t8⟩ := q
        have kq4 : KQ m3 m4 := fun a i x y => t2.2 a i (by omega) (by omega) (by omega)
        refine ⟨k3.tr (KE.t t2), (kq4 61 0 (by omega) (by omega)).trans n61'', gi3.q kq4, t1, (t2.2 58 3 (by omega) (by omega) (by omega)).trans q3, (t2.2 58 4 (by omega) (by omega) (by omega)).trans (p4 q3), t3, ?_, t5, t6, t8⟩
        refine ⟨(Ns, Rs, F', I), rfl, ru.g (fun a i x y z w => t2.2 a i z (by omega) (by omega)) (fun i hi => t2.2 58 i (by omega) (by omega) (by omega)), (t2.2 73 _ (by omega) (by omega) (by omega)).trans e73', t4, t7, fun x hx => ?_⟩
        rw [t2.1]
        exact qB x hx
