/-! THE REFERENCE'S READER: wrapping, calls without a node of one's own -/
def UT (_ : Nat) (m0 : yM) (_ : List (List Int32)) (m : yM) (_ : List ND) : Prop := FM m0 m
abbrev US (E : EV) (z : Nat) (Rs : List (List Int32)) (m0 : yM) (X : PX) (m : yM) : Prop := GS E z Rs (UT z m0) X m
theorem US.mk {E : EV} {t o z : Nat} {Rs : List (List Int32)} {m : yM} (h : RRo E t o (min z 19999) Rs m) : US E z Rs m (.inl (t, o, [])) m :=
  ⟨Rs, List.prefix_refl _, h, fun _ _ _ _ f2 => f2⟩
theorem RM.gi {E : EV} {z : Nat} {Rs : List (List Int32)} {m0 m : yM} {X : PX} {id : Nat} (h : RQ E z Rs m0 X id m) : GI m := by
  rcases X with ⟨t', o', G'⟩ | e
  · obtain ⟨_, _, r2, _⟩ := h
    exact r2.gi
  · exact (show RRe E e.1 e.2 m from h).2.2.2.2.2.1
theorem US.call {xs : List Int32} {D j : Nat} {as : List Value} {E : EV} {z : Nat} {Rs : List (List Int32)} {m0 m : yM} {X X' : PX} {g : Nat → Nat → Option PX} {K : Int32 → yM → Prop} (h : US E z Rs m0 X m) (hG : ∀ t o G, X = .inl (t, o, G) → G = []) (hX : po (some X) g = some X') (ho : ∀ t o Rs' Y, X = .inl (t, o, []) → g t o = some Y → RRo E t o (min z 19999) Rs' m → yC (xg xs) D j as m (RM E z Rs' m Y)) (he : ∀ c p, RRe E c p m → yC (xg xs) D j as m (RM E 0 [] m (.inr (c, p)))) (k : ∀ id m', id < 20000 → RQ E z Rs m0 X' id m' → K (nI id) m') : yC (xg xs) D j as m (fun r m1 => ∃ u, r = some (Value.int u) ∧ K u m1) := by
  rcases X with ⟨t, o, G⟩ | ⟨c, p⟩
  · have eG := hG t o G rfl
    subst eG
    obtain ⟨Rs', hp, hR, hT⟩ := h
    rw [po_inl] at hX
    refine yC.mono (Nat.le_refl _) (fun r m1 hq => ?_) (ho t o Rs' X' rfl hX hR)
    obtain ⟨id, i1, i2, i3⟩ := hq
    refine ⟨nI id, i2, k id m1 i1 ?_⟩
    rcases X' with ⟨t', o', G'⟩ | e
    · obtain ⟨R2, p2, r2, T2⟩ := i3
      refine ⟨R2, hp.trans p2, r2, fun hz R3 m3 p3 f3 => ?_⟩
      obtain ⟨b1, b2⟩ := T2 hz R3 m3 p3 f3
      have f0 : FM m0 m := hT (by simp only [List.length_nil]; omega) Rs' m (List.prefix_refl _) (FM.re m)
      exact ⟨((FZ.re z m0).fm f0).tr b1 (Nat.le_refl _), b2⟩
    · exact i3
  · have hX0 : (.inr (c, p) : PX) = X' := Option.some.inj hX
    subst hX0
    refine yC.mono (Nat.le_refl _) (fun r m1 hq => ?_) (he c p h)
    obtain ⟨id, i1, i2, i3⟩ := hq
    exact ⟨nI id, i2, k id m1 i1 i3⟩
theorem TN.one {E : EV} {R : List (List Int32)} {m : yM} {z id : Nat} {L : List ND} {q : NQ} (hQ : RT E R m L.length (id, z, z + L.length, L)) (hn : NDV E R m (z + L.length) q) (h66 : m.1 66 (z + L.length) = -1) (h68 : m.1 68 id = -1) (h69 : m.1 69 (z + L.length) = 0) : TN E R (adM m (z + L.length) id) (z + L.length) q [(id, z, z + L.length, L)] z (z + 1 + L.length) := by
  have i9 := hQ.id
  dsimp only at i9
  refine ⟨by omega, by omega, hn.fr (List.prefix_refl _) (fun k hk => adM_k (by omega)), ⟨?_, ?_, ?_, fun j c hc => ?_⟩, ⟨fun j c hc => ?_, fun i j c e hij hc he => ?_⟩, fun j c hc => ?_⟩
  · rw [adM_66 _ _ _ h66]; rfl
  · rw [adM_67]; rfl
  · rw [adM_69, h69]; rfl
  · rcases j with _ | j
    · simp only [List.getElem?_cons_zero, Option.some.injEq] at hc
      subst hc
      refine ⟨adM_65 _ _ _, ?_⟩
      dsimp only
      rw [adM_o (by omega) (by omega) (by omega) (fun u => u.2.2 h66) (by omega), h68]
      rfl
    · simp at hc
  · rcases j with _ | j
    · simp only [List.getElem?_cons_zero, Option.some.injEq] at hc
      subst hc
      dsimp only
      omega
    · simp at hc
  · rcases j with _ | j
    · omega
    · simp at he
  · rcases j with _ | j
    · simp only [List.getElem?_cons_zero, Option.some.injEq] at hc
      subst hc
      refine RT.fr (List.prefix_refl _) _ _ hQ (fun k x k1 k2 k3 k4 k5 => ?_)
      dsimp only at k3 k4 k5
      exact adM_o (by omega) (by omega) (by omega) (fun u => u.2.2 h66) (by omega)
    · simp at hc
theorem PW.mk {xs : List Int32} {D : Nat} (hD : 1 ≤ D) {E : EV} {t o z id : Nat} {Rs : List (List Int32)} {m0 m : yM} {L : List ND} (h : RQ E z Rs m0 (.inl (t, o, L)) id m) (q : NQ) {k p v : Int32} (hk : k = q.1) (hp : p = q.2.1) (hv : q.2.2.2 = 0 ∧ v = q.2.2.1) {K : Int32 → yM → Prop} (kk : ∀ m', PW E z q Rs m0 id L (.inl (t, o, [])) m' → K (nI (min (z + L.length) 19999)) m') : yC (xg xs) D 271 [.ref 58, .int k, .int p, .int v] m (fun r m' => ∃ u, r = some (Value.int u) ∧ K u m') := by
  subst hk hp
  obtain ⟨Rs', hp', hR, hT⟩ := h
  refine y_ci (c271n xs (D - 1) hR.z9.1 hR.z9.2 _ _ _) (by omega) (kk _ ⟨Rs', hp', ?_, fun hz R2 m2 p2 f2 => ?_⟩)
  · have := hR.nd q.1 q.2.1 v
    rw [show min (min (z + L.length) 19999 + 1) 19999 = min (z + 1 + L.length + ([] : List ND).length) 19999 from by simp only [List.length_nil]; omega] at this
    exact this
  · refine WT.st ?_ p2 f2
    simp only [List.length_nil] at hz
    obtain ⟨a1, a2, a3, a4⟩ := hT (by omega) Rs' m (List.prefix_refl _) (FM.re m)
    have i9 := a4.id
    dsimp only at i9
    rw [show min (z + L.length) 19999 = z + L.length from by omega]
    obtain ⟨f1, f2, f3, f4, f5, f6, f7, f8⟩ := ndM_f m (z + L.length) q.1 q.2.1 v
    refine ⟨⟨fun a x h1 h2 h3 => ?_, ?_, ?_, RT.fr (List.prefix_refl _) _ _ a4 (fun a x h1 h2 h3 h4 _ => ?_)⟩, ⟨f1, f2, fun u => by rw [f3]; exact hv.2, fun u => absurd hv.1 u⟩, f4, f5, f6, f7, f8⟩
    · rw [ndM_o (by omega) (by omega)]; exact a1 a x h1 h2 h3
    · rw [ndM_o (by omega) (by omega)]; exact a2
    · rw [ndM_o (by omega) (by omega)]; exact a3
    · dsimp only at h3 h4
      exact ndM_o (by omega) (by omega)
theorem PW.add {E : EV} {z id : Nat} {q : NQ} {Rs : List (List Int32)} {m0 m : yM} {L : List ND} {X : PX} (h : PW E z q Rs m0 id L X m) (hG : ∀ t o G, X = .inl (t, o, G) → G = []) (hid : id < 20000) : PS E z (z + L.length) q Rs m0 (p_bind X (fun t o => .inl (t, o, L))) (adM m (min (z + L.length) 19999) id) := by
  rcases X with ⟨t, o, G⟩ | ⟨c, p⟩
  · have eG := hG t o G rfl
    subst eG
    obtain ⟨Rs', hp, hR, hT⟩ := h
    rw [p_bind_n]
    refine ⟨Rs', hp, hR.ad hid, fun hz R2 m2 p2 f2 => ?_⟩
    refine PT.st ?_ p2 f2
    obtain ⟨⟨a1, a2, a3, a4⟩, b1, b2, b3, b4, b5, b6⟩ := hT hz Rs' m (List.prefix_refl _) (FM.re m)
    have i9 := a4.id
    dsimp only at i9
    rw [show min (z + L.length) 19999 = z + L.length from by omega]
    refine ⟨fun k x k1 k2 k3 => ?_, ?_, ?_, [(id, z, z + L.length, L)], by simp [flt], TN.one a4 b1 b3 a3 b6⟩
    · rw [adM_o (by omega) (by omega) (by omega) (fun u => u.2.2 b3) (by omega)]
      exact a1 k x k1 k2 k3
    · rw [adM_o (by omega) (by omega) (by omega) (fun u => u.2.2 b3) (by omega)]
      exact b2
    · rw [adM_o (by omega) (by omega) (by omega) (fun u => u.2.2 b3) (by omega)]
      exact b5
  · exact RRe.ad h hid
theorem PW.gi {E : EV} {n : Nat} {Rs : List (List Int32)} {T : List (List Int32) → yM → List ND → Prop} {X : PX} {m : yM} (h : GS E n Rs T X m) : GI m := by
  rcases X with ⟨t', o', G'⟩ | e
  · obtain ⟨_, _, r2, _⟩ := h
    exact r2.gi
  · exact (show RRe E e.1 e.2 m from h).2.2.2.2.2.1
/-- depth for an operand of the reference, where o are open -/
def dR (o : Nat) : Nat := 11 * (60 - o) + 30
theorem c310x (xs : List Int32) (d : Nat) {E : EV} {c f : Int32} {z : Nat} {Rs : List (List Int32)} {m m0 : yM} (h : RRe E c f m) : yC (xg xs) (d + 8) 310 [.ref 58] m (RM E z Rs m0 (.inr (c, f))) := by
  refine w310_0 xs (d + 7) m _ (y_ci (c295x xs (d + 6) h _) (by omega) ⟨fun u => absurd rfl u, fun _ => ?_⟩)
  refine y_ci (c290x xs (d + 6) h _) (by omega) ⟨fun _ => ?_, fun u => absurd rfl u⟩
  refine y_ci (c295x xs (d + 6) h _) (by omega) ⟨fun _ => ?_, fun u => absurd rfl u⟩
  refine y_ci (c293x xs (d + 6) h _) (by omega) ⟨fun u => absurd rfl u, fun _ => ?_⟩
  refine y_ci (c290x xs (d + 6) h _) (by omega) ⟨fun u => absurd rfl u, fun _ => ?_⟩
  refine y_ci (c290x xs (d + 6) h _) (by omega) ⟨fun _ => ?_, fun u => absurd rfl u⟩
  refine y_ci (c293x xs (d + 6) h _) (by omega) ?_
  refine y_cv (c291 xs (d + 5) m _) (by omega) ?_
  rw [if_pos rfl, h.fail]
  refine y_nx (c272x xs (d + 1) h) (by omega) (fun m1 h1 => ?_)
  refine y_ci (c295x xs (d + 6) h1 _) (by omega) ⟨fun _ => ?_, fun u => absurd rfl u⟩
  refine y_ci (c295x xs (d + 6) h1 _) (by omega) ⟨fun _ => ?_, fun u => absurd rfl u⟩
  refine y_ci (c295x xs (d + 6) h1 _) (by omega) ⟨fun _ => ?_, fun u => absurd rfl u⟩
  exact RRe.mk (by omega) h1 (fun id m2 hid h2 => ⟨id, hid, rfl, h2⟩)
theorem c309x (xs : List Int32) (d : Nat) {E : EV} {c f : Int32} : ∀ (k n z : Nat) (Rs : List (List Int32)) (m m0 : yM), n + k = 7 → RRe E c f m → yC (xg xs) (d + 9 + k) 309 [.ref 58, .int (nI n)] m (RM E z Rs m0 (.inr (c, f))) := by
  intro k
  induction k with
  | zero =>
    intro n z Rs m m0 hn h
    have e7 : n = 7 := by omega
    subst e7
    refine w309_0 xs (d + 8) _ m _ ⟨fun u => absurd rfl u, fun _ => ?_⟩
    exact y_rm (c310x xs d h) (by omega)
  | succ k ih =>
    intro n z Rs m m0 hn h
    refine w309_0 xs (d + 9 + k) _ m _ ⟨fun _ => ?_, fun u => absurd ((nI_eq (a := n) (b := 7) (by omega) (by decide)).mp u) (by omega)⟩
    rw [nI_1]
    refine yC.mono (Nat.le_refl _) (fun r m1 q => ?_) (ih (n + 1) z Rs m m0 (by omega) h)
    obtain ⟨id, i1, i2, i3⟩ := q
    refine ⟨nI id, i2, ?_⟩
    have i3 : RRe E c f m1 := i3
    refine y_ci (c313x xs (d + 7 + k) i3 n (by omega)) (by omega) ?_
    exact w309_25 xs (d + 9 + k) _ _ _ m1 _ ⟨fun _ => ⟨id, i1, rfl, i3⟩, fun u => absurd rfl u⟩
