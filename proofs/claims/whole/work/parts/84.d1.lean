/-! THE PURE MACHINE IS SAFE: operands -/
section IS
variable {σ : RS} {u : Nat} {W : Nat → Prop} {x : IT}
theorem wrR_no (h : ¬ x.1 = 2 ∧ ¬ x.1 = 12 ∧ ¬ x.1 = 13 ∧ ¬ x.1 = 4 ∧ ¬ x.1 = 15 ∧ ¬ x.1 = 17) (r : Nat) : ¬ wrR σ x r := by
  obtain ⟨h1, h2, h3, h4, h5, h6⟩ := h
  rintro (⟨z | z | z, -⟩ | ⟨z, -⟩ | ⟨z, -⟩ | ⟨z, -⟩)
  · exact h1 z
  · exact h2 z
  · exact h3 z
  · exact h4 z
  · exact h5 z
  · exact h6 z
theorem itS_n {o : Int32} (ho : x.1 = o) (h : ¬ o = 1 ∧ ¬ o = 2 ∧ ¬ o = 3 ∧ ¬ o = 4 ∧ ¬ o = 5 ∧ ¬ o = 6 ∧ ¬ o = 7 ∧ ¬ o = 12 ∧ ¬ o = 13 ∧ ¬ o = 15 ∧ ¬ o = 16 ∧ ¬ o = 17) : itS σ u W x := by
  subst ho
  obtain ⟨a1, a2, a3, a4, a5, a6, a7, a12, a13, a15, a16, a17⟩ := h
  exact ⟨fun z => (z.elim a1 (fun z => z.elim a2 (fun z => z.elim a12 a13))).elim, fun z => (z.elim a3 a4).elim, fun z => (z.elim a5 a6).elim, fun z => (a7 z).elim, fun z => (a15 z).elim, fun z => (a16 z).elim, fun z => (a17 z).elim, fun r z => absurd z (wrR_no ⟨a2, a12, a13, a4, a15, a17⟩ r)⟩
theorem itS_1 (ho : x.1 = 1) {c : Nat} (e : x.2.1 = nI c) (hc : c < cN σ u) : itS σ u W x := ⟨fun _ => ⟨c, e, hc⟩, fun z => by rw [ho] at z; exact absurd z (by decide), fun z => by rw [ho] at z; exact absurd z (by decide), fun z => by rw [ho] at z; exact absurd z (by decide), fun z => by rw [ho] at z; exact absurd z (by decide), fun z => by rw [ho] at z; exact absurd z (by decide), fun z => by rw [ho] at z; exact absurd z (by decide), fun r z => absurd z (wrR_no (by rw [ho]; decide) r)⟩
theorem itS_2 (ho : x.1 = 2 ∨ x.1 = 12 ∨ x.1 = 13) {c : Nat} (e : x.2.1 = nI c) (hc : c < cN σ u) (hb : cN σ u ≤ 37052) (hW : W c) : itS σ u W x := by
  refine ⟨fun _ => ⟨c, e, hc⟩, fun z => ?_, fun z => ?_, fun z => ?_, fun z => ?_, fun z => ?_, fun z => ?_, fun r z => ?_⟩
  · rcases ho with w | w | w <;> rw [w] at z <;> exact absurd z (by decide)
  · rcases ho with w | w | w <;> rw [w] at z <;> exact absurd z (by decide)
  · rcases ho with w | w | w <;> rw [w] at z <;> exact absurd z (by decide)
  · rcases ho with w | w | w <;> rw [w] at z <;> exact absurd z (by decide)
  · rcases ho with w | w | w <;> rw [w] at z <;> exact absurd z (by decide)
  · rcases ho with w | w | w <;> rw [w] at z <;> exact absurd z (by decide)
  · rcases z with ⟨-, z⟩ | ⟨z, -⟩ | ⟨z, -⟩ | ⟨z, -⟩
    · rw [z, e, nI_clamp (by omega)]
      exact hW
    · rcases ho with w | w | w <;> rw [w] at z <;> exact absurd z (by decide)
    · rcases ho with w | w | w <;> rw [w] at z <;> exact absurd z (by decide)
    · rcases ho with w | w | w <;> rw [w] at z <;> exact absurd z (by decide)
theorem itS_3 (ho : x.1 = 3) {c z : Nat} (e : x.2.1 = nI c) (e2 : x.2.2.2.1 = nI z) (hz : z < 2 ^ 30) (hc : c + z ≤ cN σ u) : itS σ u W x := ⟨fun z => by rw [ho] at z; exact absurd z (by decide), fun _ => ⟨c, z, e, e2, hz, hc⟩, fun z => by rw [ho] at z; exact absurd z (by decide), fun z => by rw [ho] at z; exact absurd z (by decide), fun z => by rw [ho] at z; exact absurd z (by decide), fun z => by rw [ho] at z; exact absurd z (by decide), fun z => by rw [ho] at z; exact absurd z (by decide), fun r z => absurd z (wrR_no (by rw [ho]; decide) r)⟩
theorem itS_4 (ho : x.1 = 4) {c z : Nat} (e : x.2.1 = nI c) (e2 : x.2.2.2.1 = nI z) (hb : cN σ u ≤ 37052) (hc : c + z ≤ cN σ u) (hW : ∀ r, c ≤ r → r < c + z → W r) : itS σ u W x := by
  refine ⟨fun z => by rw [ho] at z; exact absurd z (by decide), fun _ => ⟨c, z, e, e2, by omega, hc⟩, fun z => by rw [ho] at z; exact absurd z (by decide), fun z => by rw [ho] at z; exact absurd z (by decide), fun z => by rw [ho] at z; exact absurd z (by decide), fun z => by rw [ho] at z; exact absurd z (by decide), fun z => by rw [ho] at z; exact absurd z (by decide), fun r q => ?_⟩
  rcases q with ⟨q, -⟩ | ⟨-, q1, q2⟩ | ⟨q, -⟩ | ⟨q, -⟩
  · rw [ho] at q; exact absurd q (by decide)
  · rw [e, nI_clamp (by omega)] at q1
    rw [e, e2, nI_clamp (by omega), nI_clamp (by omega)] at q2
    exact hW r q1 q2
  · rw [ho] at q; exact absurd q (by decide)
  · rw [ho] at q; exact absurd q (by decide)
theorem itS_5 (ho : x.1 = 5 ∨ x.1 = 6) {g c : Nat} (e : x.2.1 = nI g) (hg : g < u) (hk : (σ.1.getD g dBK).1 = 1) (e2 : x.2.2.1 = nI c) (hc : c < cN σ g) : itS σ u W x := by
  refine ⟨fun z => ?_, fun z => ?_, fun _ => ⟨g, c, e, hg, hk, e2, hc⟩, fun z => ?_, fun z => ?_, fun z => ?_, fun z => ?_, fun r z => absurd z (wrR_no ?_ r)⟩
  · rcases ho with w | w <;> rw [w] at z <;> exact absurd z (by decide)
  · rcases ho with w | w <;> rw [w] at z <;> exact absurd z (by decide)
  · rcases ho with w | w <;> rw [w] at z <;> exact absurd z (by decide)
  · rcases ho with w | w <;> rw [w] at z <;> exact absurd z (by decide)
  · rcases ho with w | w <;> rw [w] at z <;> exact absurd z (by decide)
  · rcases ho with w | w <;> rw [w] at z <;> exact absurd z (by decide)
  · rcases ho with w | w <;> rw [w] <;> decide
theorem itS_7 (ho : x.1 = 7) (h : 0 ≤ x.2.1 ∧ x.2.1 ≤ 24) : itS σ u W x := ⟨fun z => by rw [ho] at z; exact absurd z (by decide), fun z => by rw [ho] at z; exact absurd z (by decide), fun z => by rw [ho] at z; exact absurd z (by decide), fun _ => h, fun z => by rw [ho] at z; exact absurd z (by decide), fun z => by rw [ho] at z; exact absurd z (by decide), fun z => by rw [ho] at z; exact absurd z (by decide), fun r z => absurd z (wrR_no (by rw [ho]; decide) r)⟩
theorem itS_15 (ho : x.1 = 15) {k c : Nat} (e : x.2.1 = nI k) (hk : k < u) (e2 : x.2.2.1 = nI c) (hu : u ≤ 16) (hb : cN σ u ≤ 37052) (hc : c + cN σ k ≤ cN σ u) (hW : ∀ r, c ≤ r → r < c + cN σ k → W r) : itS σ u W x := by
  refine ⟨fun z => by rw [ho] at z; exact absurd z (by decide), fun z => by rw [ho] at z; exact absurd z (by decide), fun z => by rw [ho] at z; exact absurd z (by decide), fun z => by rw [ho] at z; exact absurd z (by decide), fun _ => ⟨k, c, e, hk, e2, hc⟩, fun z => by rw [ho] at z; exact absurd z (by decide), fun z => by rw [ho] at z; exact absurd z (by decide), fun r q => ?_⟩
  rcases q with ⟨q, -⟩ | ⟨q, -⟩ | ⟨-, q1, q2⟩ | ⟨q, -⟩
  · rw [ho] at q; exact absurd q (by decide)
  · rw [ho] at q; exact absurd q (by decide)
  · rw [e2, nI_clamp (by omega)] at q1
    rw [e, e2, nI_clamp (by omega), nI_clamp (by omega)] at q2
    exact hW r q1 q2
  · rw [ho] at q; exact absurd q (by decide)
theorem itS_16 (ho : x.1 = 16) {g : Nat} (e : x.2.1 = nI g) (hg : g < u) (hk : (σ.1.getD g dBK).1 = 1) : itS σ u W x := ⟨fun z => by rw [ho] at z; exact absurd z (by decide), fun z => by rw [ho] at z; exact absurd z (by decide), fun z => by rw [ho] at z; exact absurd z (by decide), fun z => by rw [ho] at z; exact absurd z (by decide), fun z => by rw [ho] at z; exact absurd z (by decide), fun _ => ⟨g, e, hg, hk⟩, fun z => by rw [ho] at z; exact absurd z (by decide), fun r z => absurd z (wrR_no (by rw [ho]; decide) r)⟩
theorem itS_17 (ho : x.1 = 17) {k c : Nat} (e : x.2.1 = nI k) (hk : k < 9) (e2 : x.2.2.1 = nI c) (hb : cN σ u ≤ 37052) (hc : c + szK k ≤ cN σ u) (hW : ∀ r, c ≤ r → r < c + szK k → W r) : itS σ u W x := by
  refine ⟨fun z => by rw [ho] at z; exact absurd z (by decide), fun z => by rw [ho] at z; exact absurd z (by decide), fun z => by rw [ho] at z; exact absurd z (by decide), fun z => by rw [ho] at z; exact absurd z (by decide), fun z => by rw [ho] at z; exact absurd z (by decide), fun z => by rw [ho] at z; exact absurd z (by decide), fun _ => ⟨k, c, e, hk, e2, hc⟩, fun r q => ?_⟩
  rcases q with ⟨q, -⟩ | ⟨q, -⟩ | ⟨q, -⟩ | ⟨-, q1, q2⟩
  · rw [ho] at q; exact absurd q (by decide)
  · rw [ho] at q; exact absurd q (by decide)
  · rw [ho] at q; exact absurd q (by decide)
  · rw [e2, nI_clamp (by omega)] at q1
    rw [e, e2, nI_clamp (by omega), nI_clamp (by omega)] at q2
    exact hW r q1 q2
end IS
/-- code whose instructions are as they should be; what waits is a jump -/
def itA (σ : RS) (u : Nat) (W : Nat → Prop) (C : List IT) : Prop := ∀ x, x ∈ C → itS σ u W x ∧ (¬ x.2.2.2.2.1 = 0 → x.1 = 10)
section IA
variable {σ : RS} {u : Nat} {W : Nat → Prop}
theorem itA.nil : itA σ u W [] := fun x hx => by cases hx
theorem itA.app {C E : List IT} (h : itA σ u W C) (h2 : itA σ u W E) : itA σ u W (C ++ E) := fun x hx => (List.mem_append.mp hx).elim (h x) (h2 x)
theorem itA.i {x : IT} (h : itS σ u W x) (h0 : x.2.2.2.2.1 = 0) : itA σ u W [x] := fun y hy => by
  rw [List.mem_singleton.mp hy]
  exact ⟨h, fun z => absurd h0 z⟩
theorem itA.co {x : IT} {C : List IT} (h : itS σ u W x) (h0 : x.2.2.2.2.1 = 0) (h2 : itA σ u W C) : itA σ u W (x :: C) := itA.app (C := [x]) (itA.i h h0) h2
theorem itA.mo {W' : Nat → Prop} {C : List IT} (h : itA σ u W C) (hW : ∀ r, W r → W' r) : itA σ u W' C := fun x hx => ⟨(h x hx).1.mo hW, (h x hx).2⟩
theorem itA.rs {μ : Nat} {v : Int32} {C : List IT} (hμ : ¬ μ = 0) (h : itA σ u W C) : itA σ u W (res μ v C) := fun y hy => by
  unfold res at hy
  obtain ⟨x, hx, e⟩ := List.mem_map.mp hy
  obtain ⟨h1, h2⟩ := h x hx
  rw [← e]
  unfold rs1
  by_cases q : x.2.2.2.2.1 = μ
  · rw [if_pos q]
    have o10 : x.1 = 10 := h2 (fun z => hμ (q.symm.trans z))
    exact ⟨itS_n (o := 10) o10 (by decide), fun z => absurd rfl z⟩
  · rw [if_neg q]
    exact ⟨h1, h2⟩
end IA
theorem hR_res (μ : Nat) (v : Int32) : ∀ (C : List IT) (s : Nat × Bool), hR (res μ v C) s = hR C s
  | [], s => rfl
  | x :: C, s => by
    have e1 : (rs1 μ v x).1 = x.1 := by
      unfold rs1
      split <;> rfl
    show (hS (rs1 μ v x).1 s).bind (hR (res μ v C)) = (hS x.1 s).bind (hR C)
    rw [e1]
    cases hS x.1 s with
    | none => rfl
    | some s' => exact hR_res μ v C s'
theorem hT.rs {μ : Nat} {v : Int32} {C : List IT} {a b : Nat} (h : hT C a b) : hT (res μ v C) a b := by
  unfold hT at *
  rw [hR_res]
  exact h
theorem hT.co {x : IT} {C : List IT} {a b c : Nat} (h : hS x.1 (a, false) = some (b, false)) (h2 : hT C b c) : hT (x :: C) a c := hT.app (C := [x]) (hT.i h) h2
/-- all that is known of a unit's text -/
def UQ (m0 : yM) (T : Nat) (F : List ND) (s : SU) (b : Nat) : Prop := HB m0 T F s ∧ s.1.1.length ≤ 16 ∧ b < s.1.1.length ∧ P31 F [] F.length s ∧ P32 F [] s ∧ P34 F s ∧ P36 s
section UQs
variable {m0 : yM} {T : Nat} {F : List ND} {s : SU} {b : Nat}
theorem UQ.hs (h : UQ m0 T F s b) : HS m0 T F s := h.1.1.1.1
theorem UQ.hp (h : UQ m0 T F s b) : HP m0 T F s := h.1.p h.2.1
theorem UQ.n37 (h : UQ m0 T F s b) : cN s.1 b ≤ 37052 := (h.hp.c h.2.2.1).2
theorem UQ.c (h : UQ m0 T F s b) {j : Nat} (h1 : nB s b ≤ j) (h2 : j < nB s b + szF F (nB s b)) (hj : j < F.length) : c31 F s.1 j b := h.2.2.2.1 j hj hj (by simp) b h.2.2.1 h1 h2
theorem UQ.ck (h : UQ m0 T F s b) : CKu s.1 b (nB s b) (nB s b + szF F (nB s b)) := ck_of h.1.1.1 h.1.2.2.1 h.1.2.2.2.1 h.2.2.1 h.2.1
/-- a variable of the block -/
theorem UQ.v (h : UQ m0 T F s b) {v : Nat} (hv : vIn s.1 b v) : ∃ c z, (vD s.1 v).2.2.2 = nI c ∧ c + z ≤ cN s.1 b ∧ vC s.1 v = c ∧ vZ s.1 v = z ∧ (frm s.1 v = 8 → z = 1) ∧ (frm s.1 v = 9 → vT s.1 v = nI z) ∧ (frm s.1 v = 10 → ∃ k, vT s.1 v = nI k ∧ ((k < 9 ∧ z = szK k) ∨ (9 ≤ k ∧ k - 9 < b ∧ cN s.1 (k - 9) = z))) := by
  have n37 := h.n37
  obtain ⟨c, z, d, a1, a2, a3, a4, a5, a6, a7, a8, a9, a10, a11, -⟩ := h.hp.1.v h.2.2.1 hv.1 hv.2.1
  have ed : cN s.1 b = d := by unfold cN; rw [a3, nI_clamp (by omega)]
  refine ⟨c, z, a1, by omega, a6, a7, fun f => ?_, fun f => ?_, fun f => ?_⟩
  · rcases a11 with ⟨w, e⟩ | ⟨w, e⟩ | ⟨w, e⟩
    · exact e
    · rw [w] at f; exact absurd f (by decide)
    · rw [w] at f; exact absurd f (by decide)
  · rcases a11 with ⟨w, e⟩ | ⟨w, e⟩ | ⟨w, e⟩
    · rw [w] at f; exact absurd f (by decide)
    · exact e
    · rw [w] at f; exact absurd f (by decide)
  · rcases a11 with ⟨w, e⟩ | ⟨w, e⟩ | ⟨w, k, e1, e2, e3⟩
    · rw [w] at f; exact absurd f (by decide)
    · rw [w] at f; exact absurd f (by decide)
    · refine ⟨k, e1, ?_⟩
      rcases e3 with q | ⟨q1, q2, q3⟩
      · left
        refine ⟨q, ?_⟩
        have f : s.1.2.2.1 (vD s.1 v).2.1 = 10 := f
        have e1 : s.1.2.2.2.1 (vD s.1 v).2.1 = nI k := e1
        unfold szT at a2
        rw [f, if_neg (by decide), if_neg (by decide), e1, if_neg (fun z => by have := (nI_leI (a := 9) (by omega) (by omega)).mp z; omega), nI_clamp (by omega)] at a2
        have tb : ∀ k, k < 9 → xar_2.getD k 0 = nI (szK k) := by decide
        rw [tb k q] at a2
        have : szK k ≤ 6 := by unfold szK; split <;> omega
        exact ((nI_eq (by omega) (by omega)).mp a2).symm
      · right
        refine ⟨q1, q2, ?_⟩
        unfold cN
        rw [q3, nI_clamp (by omega)]
theorem UQ.vlt (h : UQ m0 T F s b) {v : Nat} (hv : vIn s.1 b v) : v < 4096 := by
  have := (h.hs.2.2.1.1.nb h.hs.1 (Nat.le_refl _)).2.1
  obtain ⟨w, -⟩ := (vOk_i s.1 v).mp hv.2.2
  omega
/-- a variable that a node names -/
theorem UQ.g (h : UQ m0 T F s b) {j : Nat} (hv : ∃ v, s.1.2.2.2.1 j = nI v ∧ vIn s.1 b v) {t : Int32} (hg : gdV s.1 j t) : ∃ v, s.1.2.2.2.1 j = nI v ∧ (s.1.2.2.2.1 j).toNatClampNeg = v ∧ vIn s.1 b v ∧ frm s.1 v = t := by
  obtain ⟨v, v1, v2⟩ := hv
  obtain ⟨w, w1, w2, w3⟩ := hg
  have l := h.vlt v2
  have lw : w < 4096 := by
    have := (h.hs.2.2.1.1.nb h.hs.1 (Nat.le_refl _)).2.1
    obtain ⟨w, -⟩ := (vOk_i s.1 w).mp w2
    omega
  rw [v1] at w1
  have := (nI_eq (by omega) (by omega)).mp w1
  subst this
  exact ⟨v, v1, by rw [v1, nI_clamp (by omega)], v2, w3⟩
theorem UQ.kk (h : UQ m0 T F s b) {n k : Nat} (hn : n < F.length) (hk1 : k < 30 ∨ 30 < k) (hk : k < 37) (z : s.1.2.2.1 n = nI k) : kK F n = k := by
  have k37 := h.hs.1.2.1 n hn
  rcases h.hs.ks hn with y | ⟨y, -⟩
  · rw [y] at z; exact (nI_eq (by omega) (by omega)).mp z
  · rw [y] at z
    have := (nI_eq (a := 30) (by omega) (by omega)).mp (show nI 30 = nI k from z)
    omega
/-- a FUNCTION has a cell, the first -/
theorem UQ.f1 (h : UQ m0 T F s b) {g : Nat} (hg : g + 1 < s.1.1.length) (k : (s.1.1.getD g dBK).1 = 1) : 1 ≤ cN s.1 g := by
  obtain ⟨y, y1, y2⟩ := h.hs.2.2.1.1.2.2.2.2.2.2.2.2.2.2.2 g (by omega) k
  have p36 := h.2.2.2.2.2.2 g hg k
  have en : endV s.1 g = (s.1.1.getD (g + 1) dBK).2.2.2.2 := by unfold endV; rw [if_pos hg]
  have hi : vIn s.1 g (s.1.1.getD g dBK).2.2.2.2 := ⟨Nat.le_refl _, by rw [en]; exact p36, (vOk_i _ _).mpr ⟨V_lt y1, y, y1⟩⟩
  obtain ⟨c, z, d, a1, a2, a3, a4, a5, a6, a7, a8, a9, a10, a11, -⟩ := h.hp.1.v (b := g) (by omega) hi.1 hi.2.1
  have f8 : frm s.1 (s.1.1.getD g dBK).2.2.2.2 = 8 := ((h.hs.2.2.1.1.pv h.hs.1).1.1 _ hi.2.2).2.1 (by rw [vD_s y1, y2]; decide)
  have ed : cN s.1 g = d := by unfold cN; rw [a3, nI_clamp (by omega)]
  rcases a11 with ⟨w, e⟩ | ⟨w, e⟩ | ⟨w, e⟩
  · omega
  · rw [w] at f8; exact absurd f8 (by decide)
  · rw [w] at f8; exact absurd f8 (by decide)
end UQs
