/-! THE REFERENCE'S RULES: ports of instances -/
/-- what holds of variables -/
def PV (σ : RS) : Prop := (∀ v, vOk σ v → ((vD σ v).1 = 0 ∨ (vD σ v).1 = 1 ∨ (vD σ v).1 = 2 ∨ (vD σ v).1 = 3) ∧ (¬ (vD σ v).1 = 0 → frm σ v = 8) ∧ (frm σ v = 8 ∨ frm σ v = 9 → ty3 (tyV σ v)) ∧ (∃ c : Nat, (vD σ v).2.2.2 = nI c ∧ c ≤ 200000000) ∧ (frm σ v = 10 → ∃ k, σ.2.2.2.1 (vD σ v).2.1 = nI k ∧ (k < 9 ∨ (9 ≤ k ∧ k - 9 < σ.1.length ∧ (σ.1.getD (k - 9) dBK).1 = 2)))) ∧
  (∀ b v w, b < σ.1.length → (σ.1.getD b dBK).2.2.2.2 ≤ v → v < w → w < endV σ b → ¬ (σ.2.1.getD v dVK).1 = (σ.2.1.getD w dVK).1) ∧
  (∀ b v w, b < σ.1.length → ¬ (σ.1.getD b dBK).1 = 3 → (σ.1.getD b dBK).2.2.2.2 ≤ v → v < w → w < endV σ b → (vD σ v).1 = 1 → (vD σ w).1 = 1 → ¬ (vD σ v).2.2.2 = (vD σ w).2.2.2)
theorem ptR_n {σ : RS} {x w : Int32} : ∀ q v, (∀ u, v ≤ u → u < v + q → ¬ (σ.2.1.getD u dVK).1 = x) → ptR σ x w q v = -1
  | 0, v, _ => rfl
  | q + 1, v, h => by
    have es : ptR σ x w (q + 1) v = if (σ.2.1.getD v dVK).1 = x ∧ (vD σ v).1 = w then 4 * (vD σ v).2.2.2 + tyV σ v else ptR σ x w q (v + 1) := rfl
    rw [es, if_neg (fun z => h v (Nat.le_refl _) (by omega) z.1)]
    exact ptR_n q (v + 1) (fun u a b => h u (by omega) (by omega))
theorem fsp {σ : RS} (x w : Int32) : ∀ q v, (∀ a b, v ≤ a → a < b → b < v + q → ¬ (σ.2.1.getD a dVK).1 = (σ.2.1.getD b dVK).1) → (fsV σ x q v = -1 ∧ ptR σ x w q v = -1) ∨ ∃ u, v ≤ u ∧ u < v + q ∧ fsV σ x q v = nI u ∧ (σ.2.1.getD u dVK).1 = x ∧ ptR σ x w q v = if (vD σ u).1 = w then 4 * (vD σ u).2.2.2 + tyV σ u else -1
  | 0, v, _ => Or.inl ⟨rfl, rfl⟩
  | q + 1, v, h => by
    have es : ptR σ x w (q + 1) v = if (σ.2.1.getD v dVK).1 = x ∧ (vD σ v).1 = w then 4 * (vD σ v).2.2.2 + tyV σ v else ptR σ x w q (v + 1) := rfl
    have ef : fsV σ x (q + 1) v = if (σ.2.1.getD v dVK).1 = x then nI v else fsV σ x q (v + 1) := rfl
    by_cases e : (σ.2.1.getD v dVK).1 = x
    · refine Or.inr ⟨v, Nat.le_refl _, by omega, by rw [ef, if_pos e], e, ?_⟩
      rw [es]
      by_cases s : (vD σ v).1 = w
      · rw [if_pos ⟨e, s⟩, if_pos s]
      · rw [if_neg (fun z => s z.2), if_neg s]
        exact ptR_n q (v + 1) (fun u a b z => h v u (Nat.le_refl _) (by omega) (by omega) (e.trans z.symm))
    · rw [es, ef, if_neg e, if_neg (fun z => e z.1)]
      rcases fsp x w q (v + 1) (fun a b z1 z2 z3 => h a b (by omega) z2 (by omega)) with y | ⟨u, y1, y2, y3⟩
      · exact Or.inl y
      · exact Or.inr ⟨u, by omega, by omega, y3⟩
theorem shr2 {c t : Nat} (hc : c ≤ 200000000) (ht : t < 3) : nI (4 * c + t) >>> ((2 : Int32) &&& 31) = nI c ∧ nI (4 * c + t) &&& 3 = nI t ∧ ¬ nI (4 * c + t) = -1 := by
  refine ⟨?_, ?_, nI_m1 (by omega)⟩
  · rw [pk_shrN (by omega) _ 2 (by decide), show (4 * c + t) / 2 ^ 2 = c by omega]
  · rw [pk_andN (by omega) 2 (by decide), show (4 * c + t) % 2 ^ 2 = t by omega]
theorem nI_4 (c t : Nat) : 4 * nI c + nI t = nI (4 * c + t) := by
  rw [← nI_add, show (4 : Int32) = nI 4 from rfl]
  congr 1
  exact (Int32.ofNat_mul 4 c).symm
theorem ty3_n {x : Int32} (h : ty3 x) : ∃ t, t < 3 ∧ x = nI t := by
  rcases h with rfl | rfl | rfl
  · exact ⟨0, by omega, rfl⟩
  · exact ⟨1, by omega, rfl⟩
  · exact ⟨2, by omega, rfl⟩
theorem p10 : ∀ c, c < 6 → ∀ t, t < 3 → nI (10 * c + t) / 10 = nI c ∧ nI (10 * c + t) - nI (10 * c + t) / 10 * 10 = nI t ∧ ¬ nI (10 * c + t) = -1 := by decide +kernel
/-- a port: its cell and its type, or none -/
def PQ (q s a0 a : Int32) : Prop := (q = -1 ∧ s = -1) ∨ ∃ c t : Nat, c ≤ 200000000 ∧ t < 3 ∧ q = nI (4 * c + t) ∧ s = nI t ∧ a = a0 + nI c
theorem PQ.g {q s a0 a : Int32} (h : PQ q s a0 a) : (q = -1 ↔ s = -1) ∧ (¬ q = -1 → ty3 s ∧ a = a0 + (q >>> ((2 : Int32) &&& 31)) ∧ s = q &&& 3) := by
  rcases h with ⟨h1, h2⟩ | ⟨c, t, hc, ht, rfl, rfl, rfl⟩
  · exact ⟨⟨fun _ => h2, fun _ => h1⟩, fun z => absurd h1 z⟩
  · obtain ⟨s1, s2, s3⟩ := shr2 hc ht
    refine ⟨⟨fun z => absurd z s3, fun z => absurd z (nI_m1 (by omega))⟩, fun _ => ⟨?_, by rw [s1], s2.symm⟩⟩
    rcases (show t = 0 ∨ t = 1 ∨ t = 2 by omega) with rfl | rfl | rfl
    · exact Or.inl rfl
    · exact Or.inr (Or.inl rfl)
    · exact Or.inr (Or.inr rfl)
/-- the kind of an instance, on both sides -/
theorem prt_c {J : JV} {σ : RS} {m : yM} {v : Nat} (hv : vdR J σ m v (vD σ v)) (hf : frm σ v = 10) (hP : PV σ) (vo : vOk σ v) (hB : σ.1.length ≤ 399) (x w : Int32) : (∃ k, k < 9 ∧ m.1 77 v = nI k ∧ σ.2.2.2.1 (vD σ v).2.1 = nI k ∧ prt σ (σ.2.2.2.1 (vD σ v).2.1) x w = spR (nI k) x w 32 0) ∨ ∃ b, b < σ.1.length ∧ m.1 77 v = nI (b + 100) ∧ (σ.1.getD b dBK).1 = 2 ∧ σ.2.2.2.1 (vD σ v).2.1 = nI (b + 9) ∧ prt σ (σ.2.2.2.1 (vD σ v).2.1) x w = ptR σ x w (endV σ b - (σ.1.getD b dBK).2.2.2.2) (σ.1.getD b dBK).2.2.2.2 := by
  obtain ⟨k, ek, hk⟩ := (hP.1 v vo).2.2.2.2 hf
  obtain ⟨-, -, -, -, h5, -⟩ := hv
  have bt : btR (σ.2.2.2.1 (vD σ v).2.1) (m.1 77 v) := by
    unfold frm at hf
    rcases h5 with q | q | q
    · rw [q.1] at hf; exact absurd hf (by decide)
    · rw [q.1] at hf; exact absurd hf (by decide)
    · exact q.2.2.2
  obtain ⟨k', e1, e2, e3⟩ := bt
  rw [ek] at e1
  have := (nI_eq (by omega) (by omega)).mp e1
  subst this
  rw [ek]
  unfold prt
  rcases hk with q | ⟨q1, q2, q3⟩
  · refine Or.inl ⟨k, q, by rw [e3, if_pos q], rfl, ?_⟩
    rw [if_neg]
    intro z
    have := (nI_leI (a := 9) (by omega) (by omega)).mp z
    omega
  · refine Or.inr ⟨k - 9, q2, by rw [e3, if_neg (by omega), show k + 91 = k - 9 + 100 by omega], q3, by rw [show k - 9 + 9 = k by omega], ?_⟩
    rw [if_pos (show (9 : Int32) ≤ nI k from nI_le (a := 9) q1 (by omega)), show nI k - 9 = nI (k - 9) from nI_sub (b := 9) q1, nI_clamp (by omega)]
/-- a port of a block of the text, as 338 finds it -/
theorem pt_r {J : JV} {σ : RS} {m : yM} (hR : RB J σ m) (hP : PV σ) (hD : allD σ) {b : Nat} (hb : b < σ.1.length) {x w : Int32} (hw : w = 1 ∨ w = 2) : (fsV σ x (endV σ b - (σ.1.getD b dBK).2.2.2.2) (σ.1.getD b dBK).2.2.2.2 = -1 ∧ ptR σ x w (endV σ b - (σ.1.getD b dBK).2.2.2.2) (σ.1.getD b dBK).2.2.2.2 = -1) ∨ ∃ u, u < 4096 ∧ vOk σ u ∧ (σ.1.getD b dBK).2.2.2.2 ≤ u ∧ u < endV σ b ∧ (σ.2.1.getD u dVK).1 = x ∧ fsV σ x (endV σ b - (σ.1.getD b dBK).2.2.2.2) (σ.1.getD b dBK).2.2.2.2 = nI u ∧ (¬ m.1 81 u = w → ptR σ x w (endV σ b - (σ.1.getD b dBK).2.2.2.2) (σ.1.getD b dBK).2.2.2.2 = -1) ∧ (m.1 81 u = w → ∃ c t : Nat, c ≤ 200000000 ∧ t < 3 ∧ ptR σ x w (endV σ b - (σ.1.getD b dBK).2.2.2.2) (σ.1.getD b dBK).2.2.2.2 = nI (4 * c + t) ∧ m.1 77 u = nI t ∧ m.1 80 u = nI c ∧ (vD σ u).2.2.2 = nI c) := by
  have el := hR.e b
  have n2 := hR.nV.2
  rcases fsp (σ := σ) x w (endV σ b - (σ.1.getD b dBK).2.2.2.2) (σ.1.getD b dBK).2.2.2.2 (fun a c z1 z2 z3 => hP.2.1 b a c hb z1 z2 (by omega)) with q | ⟨u, u1, u2, u3, u4, u5⟩
  · exact Or.inl q
  · have vo := hD u (by omega)
    obtain ⟨-, d1, d2, d3, d4, d5, d6⟩ := hR.d vo
    obtain ⟨p1, p2, p3, ⟨c, pc, pb⟩, p5⟩ := hP.1 u vo
    refine Or.inr ⟨u, by omega, vo, u1, by omega, u4, u3, fun z => ?_, fun z => ?_⟩
    · rw [u5, if_neg (fun y => z (d1.trans y))]
    · rw [d1] at z
      have f8 : frm σ u = 8 := p2 (fun y => by rw [y] at z; rcases hw with rfl | rfl <;> exact absurd z (by decide))
      obtain ⟨t, ht, et⟩ := ty3_n (p3 (Or.inl f8))
      refine ⟨c, t, pb, ht, ?_, ?_, d3.trans pc, pc⟩
      · rw [u5, if_pos z, pc, et, nI_4]
      · have vd : vdR J σ m u (vD σ u) := ⟨d1, d2, d3, d4, d5, d6⟩
        rw [tyV_r vd (Or.inl f8), et]
theorem spR_c (b nm w : Int32) : ∀ k i, spR b nm w k i = -1 ∨ ∃ r, r < k ∧ rowP b nm w (i + 5 * r) ∧ spR b nm w k i = 4 * xar_4.getD (i + 5 * r + 3) 0 + xar_4.getD (i + 5 * r + 4) 0
  | 0, i => Or.inl rfl
  | k + 1, i => by
    have es : spR b nm w (k + 1) i = if rowP b nm w i then 4 * xar_4.getD (i + 3) 0 + xar_4.getD (i + 4) 0 else spR b nm w k (i + 5) := rfl
    rw [es]
    by_cases q : rowP b nm w i
    · rw [if_pos q]
      exact Or.inr ⟨0, by omega, q, rfl⟩
    · rw [if_neg q]
      rcases spR_c b nm w k (i + 5) with y | ⟨r, r1, r2, r3⟩
      · exact Or.inl y
      · refine Or.inr ⟨r + 1, by omega, ?_, ?_⟩
        · rw [show i + 5 * (r + 1) = i + 5 + 5 * r by omega]; exact r2
        · rw [show i + 5 * (r + 1) = i + 5 + 5 * r by omega]; exact r3
def x4i : Bool := (List.range 32).all (fun r => (List.range 32).all (fun s => decide (¬ (xar_4.getD (5 * r) 0 = xar_4.getD (5 * s) 0 ∧ xar_4.getD (5 * r + 1) 0 = 1 ∧ xar_4.getD (5 * s + 1) 0 = 1 ∧ (4 * xar_4.getD (5 * r + 3) 0 + xar_4.getD (5 * r + 4) 0) >>> ((2 : Int32) &&& 31) = (4 * xar_4.getD (5 * s + 3) 0 + xar_4.getD (5 * s + 4) 0) >>> ((2 : Int32) &&& 31))) || decide (xar_4.getD (5 * r + 2) 0 = xar_4.getD (5 * s + 2) 0)))
theorem x4i_t : x4i = true := by decide +kernel
/-- inputs in one cell are one -/
theorem prt_i {J : JV} {σ : RS} {m : yM} (hR : RB J σ m) (hP : PV σ) (hD : allD σ) {v : Nat} (vo : vOk σ v) (hf : frm σ v = 10) {x x' : Int32} (h1 : ¬ prt σ (σ.2.2.2.1 (vD σ v).2.1) x 1 = -1) (h2 : ¬ prt σ (σ.2.2.2.1 (vD σ v).2.1) x' 1 = -1) (e : prt σ (σ.2.2.2.1 (vD σ v).2.1) x 1 >>> ((2 : Int32) &&& 31) = prt σ (σ.2.2.2.1 (vD σ v).2.1) x' 1 >>> ((2 : Int32) &&& 31)) : x = x' := by
  have hB := hR.nB.2
  have hv := (hR.d vo).2
  rcases prt_c hv hf hP vo hB x 1 with ⟨k, k1, k2, k3, k4⟩ | ⟨b, b1, b2, b3, b4, b5⟩
  · rcases prt_c hv hf hP vo hB x' 1 with ⟨k', k1', k2', k3', k4'⟩ | ⟨b, b1, b2, b3, b4, b5⟩
    · rw [k3] at k3'
      have := (nI_eq (by omega) (by omega)).mp k3'
      subst this
      rw [k4] at h1 e
      rw [k4'] at h2 e
      obtain ⟨r, r1, r2, r3⟩ := (spR_c (nI k) x 1 32 0).resolve_left h1
      obtain ⟨s, s1, s2, s3⟩ := (spR_c (nI k) x' 1 32 0).resolve_left h2
      have := x4i_t
      unfold x4i at this
      rw [List.all_eq_true] at this
      have := this r (List.mem_range.mpr r1)
      rw [List.all_eq_true] at this
      have := this s (List.mem_range.mpr s1)
      rw [Bool.or_eq_true, decide_eq_true_iff, decide_eq_true_iff] at this
      rw [Nat.zero_add] at r2 r3 s2 s3
      rw [r3, s3] at e
      rcases this with y | y
      · exact absurd ⟨r2.1.trans s2.1.symm, r2.2.1, s2.2.1, e⟩ y
      · exact r2.2.2.symm.trans (y.trans s2.2.2)
    · rw [k3] at b4
      have := (nI_eq (by omega) (by omega)).mp b4
      omega
  · rcases prt_c hv hf hP vo hB x' 1 with ⟨k', k1', k2', k3', k4'⟩ | ⟨b', b1', b2', b3', b4', b5'⟩
    · rw [b4] at k3'
      have := (nI_eq (by omega) (by omega)).mp k3'
      omega
    · rw [b4] at b4'
      have := (nI_eq (by omega) (by omega)).mp b4'
      have : b = b' := by omega
      subst this
      rw [b5] at h1 e
      rw [b5'] at h2 e
      rcases pt_r hR hP hD b1 (x := x) (w := 1) (Or.inl rfl) with q | ⟨u, u1, u2, u3, u4, u5, u6, u7, u8⟩
      · exact absurd q.2 h1
      rcases pt_r hR hP hD b1 (x := x') (w := 1) (Or.inl rfl) with q | ⟨u', u1', u2', u3', u4', u5', u6', u7', u8'⟩
      · exact absurd q.2 h2
      have a1 : m.1 81 u = 1 := by
        by_cases z : m.1 81 u = 1
        · exact z
        · exact absurd (u7 z) h1
      have a2 : m.1 81 u' = 1 := by
        by_cases z : m.1 81 u' = 1
        · exact z
        · exact absurd (u7' z) h2
      obtain ⟨c, t, c1, c2, c3, c4, c5, c6⟩ := u8 a1
      obtain ⟨c', t', c1', c2', c3', c4', c5', c6'⟩ := u8' a2
      rw [c3, c3', (shr2 c1 c2).1, (shr2 c1' c2').1] at e
      have n3 : ¬ (σ.1.getD b dBK).1 = 3 := by rw [b3]; decide
      rcases Nat.lt_trichotomy u u' with z | z | z
      · exact absurd (c6.trans (e.trans c6'.symm)) (hP.2.2 b u u' b1 n3 u3 z u4' ((hR.d u2).2.1.symm.trans a1) ((hR.d u2').2.1.symm.trans a2))
      · subst z
        exact u5.symm.trans u5'
      · exact absurd (c6'.trans (e.symm.trans c6.symm)) (hP.2.2 b u' u b1 n3 u3' z u4 ((hR.d u2').2.1.symm.trans a2) ((hR.d u2).2.1.symm.trans a1))
