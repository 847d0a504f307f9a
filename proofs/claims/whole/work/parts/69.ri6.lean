/-! THE REFERENCE'S READER: its tree -/
/-- a tree of the reference: its root, the numbers its nodes lie between, its nodes as the class has them -/
abbrev CT : Type := Nat × Nat × Nat × List ND
abbrev NQ : Type := Int32 × Int32 × Int32 × Nat
def flt (Cs : List CT) : List ND := (Cs.map (fun c => c.2.2.2)).flatten
def NDV (E : EV) (Rs : List (List Int32)) (m : yM) (a : Nat) (q : NQ) : Prop := m.1 62 a = q.1 ∧ m.1 63 a = q.2.1 ∧ (q.2.2.2 = 0 → m.1 64 a = q.2.2.1) ∧ (¬ q.2.2.2 = 0 → nmV E Rs (q.2.2.2 - 1) (m.1 64 a))
def lkO (o : Option CT) : Int32 := match o with
  | some c => nI c.1
  | none => -1
def LK (m : yM) (a : Nat) (Cs : List CT) : Prop := m.1 66 a = lkO Cs[0]? ∧ m.1 67 a = lkO Cs[Cs.length - 1]? ∧ m.1 69 a = nI Cs.length ∧ ∀ (j : Nat) (c : CT), Cs[j]? = some c → m.1 65 c.1 = nI a ∧ m.1 68 c.1 = lkO Cs[j + 1]?
def OD (a lo hi : Nat) (Cs : List CT) : Prop := (∀ (j : Nat) (c : CT), Cs[j]? = some c → lo ≤ c.2.1 ∧ c.2.2.1 ≤ hi ∧ c.2.1 ≤ c.1 ∧ c.1 < c.2.2.1 ∧ (a < c.2.1 ∨ c.2.2.1 ≤ a)) ∧ ∀ (i j : Nat) (c e : CT), i < j → Cs[i]? = some c → Cs[j]? = some e → c.2.2.1 ≤ e.2.1
def RT (E : EV) (Rs : List (List Int32)) (m : yM) : Nat → CT → Prop
  | 0 => fun _ => False
  | N + 1 => fun T => T.2.1 ≤ T.1 ∧ T.1 < T.2.2.1 ∧ ∃ (q : NQ) (Cs : List CT), T.2.2.2 = (q.1, q.2.1, q.2.2.1, q.2.2.2, (flt Cs).length + 1) :: flt Cs ∧ NDV E Rs m T.1 q ∧ LK m T.1 Cs ∧ OD T.1 T.2.1 T.2.2.1 Cs ∧ ∀ (j : Nat) (c : CT), Cs[j]? = some c → RT E Rs m N c
/-- the same nodes but for a root's place among others -/
def AG (m m' : yM) (lo hi x0 : Nat) : Prop := ∀ a x, 62 ≤ a → a ≤ 69 → lo ≤ x → x < hi → (x ≠ x0 ∨ (a ≠ 65 ∧ a ≠ 68)) → m'.1 a x = m.1 a x
theorem NDV.fr {E : EV} {Rs Rs' : List (List Int32)} {m m' : yM} {a : Nat} {q : NQ} (h : NDV E Rs m a q) (hp : Rs <+: Rs') (g : ∀ k, k = 62 ∨ k = 63 ∨ k = 64 → m'.1 k a = m.1 k a) : NDV E Rs' m' a q := by
  obtain ⟨a1, a2, a3, a4⟩ := h
  refine ⟨?_, ?_, fun z => ?_, fun z => ?_⟩
  · rw [g 62 (by omega)]; exact a1
  · rw [g 63 (by omega)]; exact a2
  · rw [g 64 (by omega)]; exact a3 z
  · rw [g 64 (by omega)]; exact (a4 z).mono hp
theorem LK.fr {m m' : yM} {a lo hi : Nat} {Cs : List CT} (h : LK m a Cs) (ho : OD a lo hi Cs) (h1 : lo ≤ a) (h2 : a < hi) (g : AG m m' lo hi a) : LK m' a Cs := by
  obtain ⟨b1, b2, b3, b4⟩ := h
  refine ⟨?_, ?_, ?_, fun j c hc => ?_⟩
  · rw [g 66 a (by omega) (by omega) h1 h2 (Or.inr (by omega))]; exact b1
  · rw [g 67 a (by omega) (by omega) h1 h2 (Or.inr (by omega))]; exact b2
  · rw [g 69 a (by omega) (by omega) h1 h2 (Or.inr (by omega))]; exact b3
  · obtain ⟨o1, o2, o3, o4, o5⟩ := ho.1 j c hc
    rw [g 65 c.1 (by omega) (by omega) (by omega) (by omega) (Or.inl (by omega)), g 68 c.1 (by omega) (by omega) (by omega) (by omega) (Or.inl (by omega))]
    exact b4 j c hc
theorem RT.fr {E : EV} {Rs Rs' : List (List Int32)} {m m' : yM} (hp : Rs <+: Rs') : ∀ (N : Nat) (T : CT), RT E Rs m N T → AG m m' T.2.1 T.2.2.1 T.1 → RT E Rs' m' N T := by
  intro N
  induction N with
  | zero => intro T h _; exact h
  | succ N ih =>
    intro T h g
    obtain ⟨h1, h2, q, Cs, h3, h4, h5, h6, h7⟩ := h
    refine ⟨h1, h2, q, Cs, h3, ?_, ?_, h6, ?_⟩
    · exact h4.fr hp (fun k hk => g k T.1 (by omega) (by omega) h1 h2 (Or.inr (by omega)))
    · exact h5.fr h6 h1 h2 g
    · intro j c hc
      obtain ⟨o1, o2, o3, o4, o5⟩ := h6.1 j c hc
      exact ih c (h7 j c hc) (fun a x k1 k2 k3 k4 _ => g a x k1 k2 (by omega) (by omega) (Or.inl (by omega)))
theorem RT.mo {E : EV} {Rs : List (List Int32)} {m : yM} : ∀ (N N' : Nat) (T : CT), N ≤ N' → RT E Rs m N T → RT E Rs m N' T := by
  intro N
  induction N with
  | zero => intro N' T _ h; exact h.elim
  | succ N ih =>
    intro N' T hN h
    obtain ⟨K, rfl⟩ : ∃ K, N' = K + 1 := ⟨N' - 1, by omega⟩
    obtain ⟨h1, h2, q, Cs, h3, h4, h5, h6, h7⟩ := h
    exact ⟨h1, h2, q, Cs, h3, h4, h5, h6, fun j c hc => ih K c (by omega) (h7 j c hc)⟩
theorem RT.id {E : EV} {Rs : List (List Int32)} {m : yM} {N : Nat} {T : CT} (h : RT E Rs m N T) : T.2.1 ≤ T.1 ∧ T.1 < T.2.2.1 := by
  cases N with
  | zero => exact h.elim
  | succ N => exact ⟨h.1, h.2.1⟩
theorem flt_le : ∀ (Cs : List CT) (j : Nat) (c : CT), Cs[j]? = some c → c.2.2.2.length ≤ (flt Cs).length := by
  intro Cs
  induction Cs with
  | nil => intro j c h; simp at h
  | cons e Cs ih =>
    intro j c h
    have e1 : (flt (e :: Cs)).length = e.2.2.2.length + (flt Cs).length := by
      simp only [flt, List.map_cons, List.flatten_cons, List.length_append]
    cases j with
    | zero =>
      simp only [List.getElem?_cons_zero, Option.some.injEq] at h
      subst h
      omega
    | succ j =>
      simp only [List.getElem?_cons_succ] at h
      have := ih j c h
      omega
theorem flt_snoc (Cs : List CT) (c : CT) : flt (Cs ++ [c]) = flt Cs ++ c.2.2.2 := by simp [flt]
/-- a node and the trees below it so far -/
def TN (E : EV) (Rs : List (List Int32)) (m : yM) (a : Nat) (q : NQ) (Cs : List CT) (lo hi : Nat) : Prop := lo ≤ a ∧ a < hi ∧ NDV E Rs m a q ∧ LK m a Cs ∧ OD a lo hi Cs ∧ ∀ (j : Nat) (c : CT), Cs[j]? = some c → RT E Rs m c.2.2.2.length c
theorem TN.rt {E : EV} {Rs : List (List Int32)} {m : yM} {a lo hi : Nat} {q : NQ} {Cs : List CT} (h : TN E Rs m a q Cs lo hi) : RT E Rs m ((flt Cs).length + 1) (a, lo, hi, (q.1, q.2.1, q.2.2.1, q.2.2.2, (flt Cs).length + 1) :: flt Cs) :=
  ⟨h.1, h.2.1, q, Cs, rfl, h.2.2.1, h.2.2.2.1, h.2.2.2.2.1, fun j c hc => RT.mo _ _ c (flt_le Cs j c hc) (h.2.2.2.2.2 j c hc)⟩
theorem TN.fr {E : EV} {Rs Rs' : List (List Int32)} {m m' : yM} {a lo hi : Nat} {q : NQ} {Cs : List CT} (h : TN E Rs m a q Cs lo hi) (hp : Rs <+: Rs') (g : AG m m' lo hi a) : TN E Rs' m' a q Cs lo hi := by
  obtain ⟨h1, h2, h3, h4, h5, h6⟩ := h
  refine ⟨h1, h2, h3.fr hp (fun k hk => g k a (by omega) (by omega) h1 h2 (Or.inr (by omega))), h4.fr h5 h1 h2 g, h5, fun j c hc => ?_⟩
  obtain ⟨o1, o2, o3, o4, o5⟩ := h5.1 j c hc
  exact RT.fr hp _ c (h6 j c hc) (fun a x k1 k2 k3 k4 _ => g a x k1 k2 (by omega) (by omega) (Or.inl (by omega)))
/-- a child added -/
def adM (m : yM) (a c : Nat) : yM := y_si (y_si (if m.1 66 a = -1 then y_si (y_si m 65 c (nI a)) 66 a (nI c) else y_si (y_si m 65 c (nI a)) 68 (m.1 67 a).toNatClampNeg (nI c)) 67 a (nI c)) 69 a (m.1 69 a + 1)
theorem adM_o {m : yM} {a c : Nat} {k x : Nat} (hk : ¬ (k = 65 ∧ x = c)) (hk2 : ¬ (k = 66 ∧ x = a ∧ m.1 66 a = -1)) (hk3 : ¬ (k = 67 ∧ x = a)) (hk4 : ¬ (k = 68 ∧ x = (m.1 67 a).toNatClampNeg ∧ ¬ m.1 66 a = -1)) (hk5 : ¬ (k = 69 ∧ x = a)) : (adM m a c).1 k x = m.1 k x := by
  unfold adM
  rw [y_si_at, if_neg hk5, y_si_at, if_neg hk3]
  split
  · rename_i z
    rw [y_si_at, if_neg (fun u => hk2 ⟨u.1, u.2, z⟩), y_si_at, if_neg hk]
  · rename_i z
    rw [y_si_at, if_neg (fun u => hk4 ⟨u.1, u.2, z⟩), y_si_at, if_neg hk]
theorem adM_65 (m : yM) (a c : Nat) : (adM m a c).1 65 c = nI a := by
  unfold adM
  rw [y_si_at, if_neg (by omega), y_si_at, if_neg (by omega)]
  split <;> rw [y_si_at, if_neg (by omega), y_si_at, if_pos ⟨rfl, rfl⟩]
theorem adM_66 (m : yM) (a c : Nat) (h : m.1 66 a = -1) : (adM m a c).1 66 a = nI c := by
  unfold adM
  rw [y_si_at, if_neg (by omega), y_si_at, if_neg (by omega), if_pos h, y_si_at, if_pos ⟨rfl, rfl⟩]
theorem adM_67 (m : yM) (a c : Nat) : (adM m a c).1 67 a = nI c := by
  unfold adM
  rw [y_si_at, if_neg (by omega), y_si_at, if_pos ⟨rfl, rfl⟩]
theorem adM_68 (m : yM) (a c : Nat) (h : ¬ m.1 66 a = -1) : (adM m a c).1 68 (m.1 67 a).toNatClampNeg = nI c := by
  unfold adM
  rw [y_si_at, if_neg (by omega), y_si_at, if_neg (by omega), if_neg h, y_si_at, if_pos ⟨rfl, rfl⟩]
theorem adM_69 (m : yM) (a c : Nat) : (adM m a c).1 69 a = m.1 69 a + 1 := by
  unfold adM
  rw [y_si_at, if_pos ⟨rfl, rfl⟩]
theorem adM_2 (m : yM) (a c : Nat) : (adM m a c).2 = m.2 := by
  unfold adM
  split <;> rfl
theorem adM_k {m : yM} {a c k x : Nat} (hk : k < 65 ∨ 69 < k) : (adM m a c).1 k x = m.1 k x := adM_o (by omega) (by omega) (by omega) (by omega) (by omega)
theorem adM_gi {m : yM} {a c : Nat} (h : GI m) (hc : c < 20000) : GI (adM m a c) := by
  intro x hx
  by_cases e : x = a
  · subst e
    right
    rw [adM_67]
    exact x_in_nI hc (by decide)
  · rw [adM_o (k := 66) (by omega) (by omega) (by omega) (by omega) (by omega), adM_o (k := 67) (by omega) (by omega) (by omega) (by omega) (by omega)]
    exact h x hx
theorem c297 (xs : List Int32) (d : Nat) {m : yM} (h : GI m) {a c : Nat} (ha : a < 20000) (hc : c < 20000) : yC (xg xs) (d + 1) 297 [.ref 58, .int (nI a), .int (nI c)] m (fun r m' => r = none ∧ m' = adM m a c) := by
  have xa : x_in (nI a) 20000 = true := x_in_nI ha (by decide)
  have xc : x_in (nI c) 20000 = true := x_in_nI hc (by decide)
  have ea : (nI a).toNatClampNeg = a := nI_clamp (by omega)
  have ec : (nI c).toNatClampNeg = c := nI_clamp (by omega)
  refine w297_0 xs d _ _ m _ ⟨xc, xa, fun z => ⟨xa, ?_, ?_⟩, fun z => ⟨xa, ?_⟩⟩
  · rw [ea] at z ⊢
    rcases h a ha with u | u
    · exact absurd u z
    · exact u
  · rw [ea] at z
    refine w297_39 xs d _ _ _ _ ⟨xa, xa, xa, rfl, ?_⟩
    rw [ea, ec]
    unfold adM
    rw [if_neg z]
    congr 1
  · rw [ea] at z
    refine w297_39 xs d _ _ _ _ ⟨xa, xa, xa, rfl, ?_⟩
    rw [ea, ec]
    unfold adM
    rw [if_pos z]
    congr 1
theorem nI_m1 {n : Nat} (h : n < 2 ^ 31) : ¬ nI n = -1 := by
  intro u
  have h1 := nI_pos' h
  rw [u] at h1
  exact absurd h1 (by decide)
theorem getE_snoc (Cs : List CT) (c : CT) (j : Nat) : (Cs ++ [c])[j]? = if j < Cs.length then Cs[j]? else if j = Cs.length then some c else none := by
  rw [List.getElem?_append]
  split
  · rfl
  · split
    · rename_i z; rw [z]; simp
    · rename_i z1 z2
      rw [List.getElem?_eq_none_iff]
      simp
      omega
theorem TN.snoc {E : EV} {Rs : List (List Int32)} {m : yM} {a lo hi hi' : Nat} {q : NQ} {Cs : List CT} (h : TN E Rs m a q Cs lo hi) (c : CT) (hc : RT E Rs m c.2.2.2.length c) (c1 : hi ≤ c.2.1) (c2 : c.2.2.1 ≤ hi') (h9 : hi' ≤ 20000) (hb : m.1 68 c.1 = -1) : TN E Rs (adM m a c.1) a q (Cs ++ [c]) lo hi' := by
  obtain ⟨i1, i2⟩ := hc.id
  obtain ⟨t1, t2, t3, t4, t5, t6⟩ := h
  obtain ⟨l1, l2, l3, l4⟩ := t4
  -- the last child so far
  have lst : ∀ (j : Nat) (e : CT), Cs[j]? = some e → ¬ m.1 66 a = -1 ∧ ((m.1 67 a).toNatClampNeg = e.1 ∧ j + 1 = Cs.length ∨ (j + 1 < Cs.length ∧ ¬ (e.2.1 ≤ (m.1 67 a).toNatClampNeg ∧ (m.1 67 a).toNatClampNeg < e.2.2.1))) := by
    intro j e he
    have hj : j < Cs.length := (List.getElem?_eq_some_iff.mp he).1
    refine ⟨?_, ?_⟩
    · rw [l1, List.getElem?_eq_getElem (show 0 < Cs.length by omega)]
      have o := t5.1 0 _ (List.getElem?_eq_getElem (show 0 < Cs.length by omega))
      exact nI_m1 (by omega)
    · have g := List.getElem?_eq_getElem (show Cs.length - 1 < Cs.length by omega)
      have o := t5.1 _ _ g
      rw [l2, g]
      have ec : (lkO (some Cs[Cs.length - 1])).toNatClampNeg = (Cs[Cs.length - 1]).1 := nI_clamp (by omega)
      rw [ec]
      by_cases z : j + 1 = Cs.length
      · left
        refine ⟨?_, z⟩
        have g' : Cs[Cs.length - 1]? = some e := by rw [show Cs.length - 1 = j from by omega]; exact he
        rw [← Option.some.inj (g'.symm.trans g)]
      · right
        refine ⟨by omega, fun u => ?_⟩
        have p := t5.2 j (Cs.length - 1) e _ (by omega) he g
        omega
  have lz : Cs.length = 0 → m.1 66 a = -1 := by
    intro z
    rw [l1, List.getElem?_eq_none (by omega)]
    rfl
  have l67 : Cs.length ≠ 0 → ∃ e, Cs[Cs.length - 1]? = some e ∧ (m.1 67 a).toNatClampNeg = e.1 ∧ ¬ m.1 66 a = -1 := by
    intro z
    have g := List.getElem?_eq_getElem (show Cs.length - 1 < Cs.length by omega)
    obtain ⟨u1, u2⟩ := lst _ _ g
    refine ⟨_, g, ?_, u1⟩
    rcases u2 with u | u
    · exact u.1
    · omega
  refine ⟨t1, by omega, ?_, ⟨?_, ?_, ?_, ?_⟩, ⟨?_, ?_⟩, ?_⟩
  · exact t3.fr (List.prefix_refl _) (fun k hk => adM_k (by omega))
  · rw [getE_snoc]
    by_cases z : Cs.length = 0
    · rw [adM_66 m a c.1 (lz z), if_neg (by omega), if_pos z.symm]
      rfl
    · obtain ⟨e, e1, e2, e3⟩ := l67 z
      rw [adM_o (by omega) (fun u => e3 u.2.2) (by omega) (by omega) (by omega), if_pos (by omega)]
      exact l1
  · rw [adM_67, getE_snoc, List.length_append, List.length_singleton, if_neg (by omega), if_pos (by omega)]
    rfl
  · rw [adM_69, l3, nI_1, List.length_append, List.length_singleton]
  · intro j e he
    rw [getE_snoc] at he
    by_cases z : j < Cs.length
    · rw [if_pos z] at he
      obtain ⟨u1, u2⟩ := lst j e he
      obtain ⟨o1, o2, o3, o4, o5⟩ := t5.1 j e he
      obtain ⟨k1, k2⟩ := l4 j e he
      refine ⟨?_, ?_⟩
      · rw [adM_o (by omega) (by omega) (by omega) (by omega) (by omega)]; exact k1
      · rw [getE_snoc]
        rcases u2 with u | u
        · rw [← u.1, adM_68 m a c.1 u1, if_neg (by omega), if_pos u.2]
          rfl
        · rw [adM_o (by omega) (by omega) (by omega) (fun v => by omega) (by omega), if_pos u.1]
          exact k2
    · rw [if_neg z] at he
      by_cases z2 : j = Cs.length
      · rw [if_pos z2] at he
        have he := Option.some.inj he
        subst he
        refine ⟨adM_65 m a _, ?_⟩
        rw [getE_snoc, if_neg (by omega), if_neg (by omega), adM_o (by omega) (by omega) (by omega) ?_ (by omega)]
        · exact hb
        · intro v
          by_cases z3 : Cs.length = 0
          · exact v.2.2 (lz z3)
          · obtain ⟨e, e1, e2, e3⟩ := l67 z3
            have o := t5.1 _ _ e1
            omega
      · rw [if_neg z2] at he
        cases he
  · intro j e he
    rw [getE_snoc] at he
    by_cases z : j < Cs.length
    · rw [if_pos z] at he
      have o := t5.1 j e he
      omega
    · rw [if_neg z] at he
      by_cases z2 : j = Cs.length
      · rw [if_pos z2] at he
        have he := Option.some.inj he
        subst he
        omega
      · rw [if_neg z2] at he
        cases he
  · intro i j e f hij he hf
    rw [getE_snoc] at he hf
    have zi : i < Cs.length := by
      rcases Nat.lt_or_ge i Cs.length with u | u
      · exact u
      · rw [if_neg (by omega : ¬ j < Cs.length), if_neg (by omega)] at hf
        cases hf
    rw [if_pos zi] at he
    by_cases z : j < Cs.length
    · rw [if_pos z] at hf
      exact t5.2 i j e f hij he hf
    · rw [if_neg z] at hf
      by_cases z2 : j = Cs.length
      · rw [if_pos z2] at hf
        have hf := Option.some.inj hf
        subst hf
        have o := t5.1 i e he
        omega
      · rw [if_neg z2] at hf
        cases hf
  · intro j e he
    rw [getE_snoc] at he
    by_cases z : j < Cs.length
    · rw [if_pos z] at he
      obtain ⟨u1, u2⟩ := lst j e he
      obtain ⟨o1, o2, o3, o4, o5⟩ := t5.1 j e he
      refine RT.fr (List.prefix_refl _) _ e (t6 j e he) (fun k x k1 k2 k3 k4 k5 => ?_)
      refine adM_o (by omega) (by omega) (by omega) (fun v => ?_) (by omega)
      rcases u2 with u | u
      · have := u.1
        omega
      · have := u.2
        omega
    · rw [if_neg z] at he
      by_cases z2 : j = Cs.length
      · rw [if_pos z2] at he
        have he := Option.some.inj he
        subst he
        refine RT.fr (List.prefix_refl _) _ _ hc (fun k x k1 k2 k3 k4 k5 => ?_)
        refine adM_o (by omega) (by omega) (by omega) (fun v => ?_) (by omega)
        by_cases z3 : Cs.length = 0
        · exact v.2.2 (lz z3)
        · obtain ⟨e, e1, e2, e3⟩ := l67 z3
          have o := t5.1 _ _ e1
          omega
      · rw [if_neg z2] at he
        cases he
