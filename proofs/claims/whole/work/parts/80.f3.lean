/-! THE CELLS AT THE BEGIN: all blocks, the reference -/
theorem HP.aS {m0 : yM} {T : Nat} {F : List ND} {s : SU} (h : HP m0 T F s) : aS s.1 s.1.1.length 0 0 = bsA s.1 (s.1.1.length - 1) := by
  obtain ⟨l1, l2, l3⟩ := h.l
  obtain ⟨L, eL⟩ : ∃ L, s.1.1.length = L + 1 := ⟨s.1.1.length - 1, by omega⟩
  have a := aS_e s.1 L 0 0
  have b := aS_b s.1 L 0 0 (fun c _ z => h.k (by omega))
  have e0 : bsA s.1 0 = cB s.1 L := by
    show cB s.1 (s.1.1.length - 1) = _
    rw [eL]
    rfl
  rw [eL, a]
  rw [Nat.zero_add, Int32.zero_add, e0] at b
  rw [eL, Nat.add_sub_cancel] at l3
  rw [Nat.zero_add, l3, if_neg (by decide), b, Nat.add_sub_cancel]
/-- what its end leaves alone -/
def KT (m m' : yM) : Prop := m'.2 = m.2 ∧ ∀ a i, ¬ a = 74 → ¬ a = 98 → ¬ (a = 58 ∧ (i = 61 ∨ i = 62 ∨ i = 64 ∨ i = 65)) → m'.1 a i = m.1 a i
theorem KT.re (m : yM) : KT m m := ⟨rfl, fun _ _ _ _ _ => rfl⟩
theorem KT.tr {m m1 m2 : yM} (h : KT m m1) (h2 : KT m1 m2) : KT m m2 := ⟨h2.1.trans h.1, fun a i x y z => (h2.2 a i x y z).trans (h.2 a i x y z)⟩
theorem KT.s {m m1 : yM} (h : KT m m1) {k j : Nat} {v : Int32} (hk : k = 74 ∨ k = 98 ∨ (k = 58 ∧ (j = 61 ∨ j = 62 ∨ j = 64 ∨ j = 65))) : KT m (y_si m1 k j v) := ⟨h.1, fun a i x y z => by rw [y_si_at, if_neg (by omega)]; exact h.2 a i x y z⟩
theorem K98.t {m m' : yM} (h : K98 m m') : KT m m' := ⟨h.1, fun a i _ y _ => h.2 a i y⟩
def tlQ (s : SU) (m : yM) (r : Option Value) (m' : yM) : Prop := r = some (.int 0) ∧ KT m m' ∧ m'.1 58 61 = 1 ∧ m'.1 58 62 = bsA s.1 (s.1.1.length - 1) ∧ m'.1 58 64 = 0 ∧ m'.1 58 65 = 0 ∧ (∀ b, b < s.1.1.length - 1 → m'.1 74 b = bsA s.1 b) ∧ ∀ x, x < 8192 → m'.1 98 x = pmF s.1 x
theorem c269t (xs : List Int32) (D : Nat) {m0 : yM} {T : Nat} {J : JV} {s : SU} {m : yM} (h : HP m0 T J.2.2.1 s) (hr : RW J s m) (he : m.1 73 s.1.1.length = nI s.1.2.1.length) : yP (xg xs) (D + 17) 269 89 [(0, .ref 58)] [] m (tlQ s m) := by
  obtain ⟨l1, l2, l3⟩ := h.l
  have n23 : m.1 58 23 = nI s.1.1.length := hr.b.1.2.2.2.1
  have eL : nI s.1.1.length - 1 = nI (s.1.1.length - 1) := nI_m l1
  refine w269_89 xs (D + 16) m _ ⟨fun _ => ?_, fun u => absurd (by rw [hr.b.1.1]; decide) u⟩
  refine y_ci (c328m xs (D + 15) hr.t hr.b (fun _ _ _ _ => rfl) rfl) (by omega) ?_
  rw [h.aS]
  have t0 : KT m (y_si m 58 62 (bsA s.1 (s.1.1.length - 1))) := (KT.re m).s (by omega)
  have t62 : (y_si m 58 62 (bsA s.1 (s.1.1.length - 1))).1 58 62 = bsA s.1 (s.1.1.length - 1) := y_si_same _ _ _ _
  generalize y_si m 58 62 (bsA s.1 (s.1.1.length - 1)) = m1 at t0 t62 ⊢
  have rfm := RF_of hr he
  have r1 : ∀ m2, KT m m2 → RF s m2 := fun m2 k => rfm.g (fun a i x y z => k.2 a i z (by omega) (by omega))
  -- the blocks
  have lb : ∀ (k b : Nat) (m2 : yM), b + k = s.1.1.length - 1 → KT m m2 → m2.1 58 62 = bsA s.1 (s.1.1.length - 1) → (∀ x, x < b → m2.1 74 x = bsA s.1 x) → (∀ x, x < 8192 → m2.1 98 x = pm s.1 b x) → yP (xg xs) (D + 17) 269 145 [(0, .ref 58), (2, .int (bsA s.1 b)), (3, .int (nI b))] [] m2 (tlQ s m) := by
    intro k
    induction k with
    | zero =>
      intro b m2 hk q1 q62 q74 q98
      have eb : b = s.1.1.length - 1 := by omega
      subst eb
      have m23 : m2.1 58 23 = nI s.1.1.length := (q1.2 58 23 (by omega) (by omega) (by omega)).trans n23
      refine w269_145 xs (D + 16) _ _ m2 _ ⟨fun _ => ?_, fun u => absurd (by rw [m23, eL]; exact nI_le (Nat.le_refl _) (by omega)) u⟩
      rw [m23, eL]
      obtain ⟨e1, e2⟩ := h.c (b := s.1.1.length - 1) (by omega)
      have e3 : cN s.1 (s.1.1.length - 1) ≤ 8192 := h.le (b := 0) l1
      refine y_nx (c393 xs h.1 16 (s.1.1.length - 1) 0 (cN s.1 (s.1.1.length - 1)) D m2 (by omega) (by omega) e1 (by omega) (r1 m2 q1) (fun x hx => ?_)) (by omega) (fun m3 q3 => ?_)
      · rw [Nat.zero_add, q98 x (by omega)]
        exact pm_z s.1 _ x (Or.inl hx)
      · obtain ⟨p1, p2⟩ := q3
        have q4 := q1.tr p1.t
        refine ⟨rfl, ((q4.s (by omega)).s (by omega)).s (by omega), y_si_same _ _ _ _, ?_, ?_, ?_, fun b hb => ?_, fun x hx => ?_⟩
        · rw [y_si_at, if_neg (by omega), y_si_at, if_neg (by omega), y_si_at, if_neg (by omega), p1.2 58 62 (by omega)]; exact q62
        · rw [y_si_at, if_neg (by omega), y_si_at, if_neg (by omega), y_si_same]
        · rw [y_si_at, if_neg (by omega), y_si_same]
        · rw [y_si_at, if_neg (by omega), y_si_at, if_neg (by omega), y_si_at, if_neg (by omega), p1.2 74 b (by omega)]; exact q74 b hb
        · rw [y_si_at, if_neg (by omega), y_si_at, if_neg (by omega), y_si_at, if_neg (by omega), p2 x, Nat.zero_add, Nat.sub_zero, q98 x hx]
          unfold pmF
          by_cases y : x < cN s.1 (s.1.1.length - 1)
          · rw [if_pos ⟨Nat.zero_le _, y⟩, if_pos y]
          · rw [if_neg (fun z => y z.2), if_neg y]
    | succ k ih =>
      intro b m2 hk q1 q62 q74 q98
      have hb : b < s.1.1.length - 1 := by omega
      have m23 : m2.1 58 23 = nI s.1.1.length := (q1.2 58 23 (by omega) (by omega) (by omega)).trans n23
      obtain ⟨b1, b2, b3, b4, b5, b6, b7⟩ := hr.b.b (b := b) (by omega)
      have g70 : m2.1 70 b = nI (J.2.2.2 (s.1.1.getD b dBK).2.1) := (q1.2 70 b (by omega) (by omega) (by omega)).trans b2
      have g72 : m2.1 72 b = cB s.1 b := (q1.2 72 b (by omega) (by omega) (by omega)).trans b4
      have g62 : m2.1 62 (J.2.2.2 (s.1.1.getD b dBK).2.1) = (s.1.1.getD b dBK).1 := by
        rw [q1.2 62 _ (by omega) (by omega) (by omega), (hr.t.2.1 _ b1).2.1, b7]
      have xb : x_in (nI b) 400 = true := x_in_nI (by omega) (by decide)
      have ps : ∀ x, pm s.1 (b + 1) x = if (s.1.1.getD b dBK).1 = 1 ∧ bsN s.1 b ≤ x ∧ x < bsN s.1 b + cN s.1 b then ivB s.1 16 b (x - bsN s.1 b) else pm s.1 b x := fun _ => rfl
      have q5 : KT m (y_si m2 74 b (bsA s.1 b)) := q1.s (by omega)
      have q74' : ∀ x, x < b + 1 → (y_si m2 74 b (bsA s.1 b)).1 74 x = bsA s.1 x := by
        intro x hx
        rw [y_si_at]
        by_cases y : x = b
        · rw [if_pos ⟨rfl, y⟩, y]
        · rw [if_neg (fun z => y z.2)]; exact q74 x (by omega)
      refine w269_145 xs (D + 16) _ _ m2 _ ⟨fun u => ?_, fun _ => ⟨xb, xb, ?_, ?_⟩⟩
      · rw [m23, eL] at u
        exact absurd ((nI_leI (by omega) (by omega)).mp u) (by omega)
      · rw [nI_clamp (by omega), g70]
        exact hr.t.x b1
      · rw [nI_clamp (by omega), g70, hr.t.c b1, g62, g72]
        have h70 : (y_si m2 74 b (bsA s.1 b)).1 70 b = nI (J.2.2.2 (s.1.1.getD b dBK).2.1) := by rw [y_si_at, if_neg (by omega)]; exact g70
        have h62 : (y_si m2 74 b (bsA s.1 b)).1 62 (J.2.2.2 (s.1.1.getD b dBK).2.1) = (s.1.1.getD b dBK).1 := by rw [y_si_at, if_neg (by omega)]; exact g62
        have h98 : ∀ x, x < 8192 → (y_si m2 74 b (bsA s.1 b)).1 98 x = pm s.1 b x := fun x hx => by rw [y_si_at, if_neg (by omega)]; exact q98 x hx
        have h5862 : (y_si m2 74 b (bsA s.1 b)).1 58 62 = bsA s.1 (s.1.1.length - 1) := by rw [y_si_at, if_neg (by omega)]; exact q62
        generalize y_si m2 74 b (bsA s.1 b) = m3 at q5 q74' h70 h62 h98 h5862 ⊢
        have bs : bsA s.1 (b + 1) = if (s.1.1.getD b dBK).1 = 1 then bsA s.1 b + cB s.1 b else bsA s.1 b := rfl
        refine ⟨fun u => ?_, fun u => ⟨xb, ?_⟩⟩
        · refine w269_188 xs (D + 16) _ _ _ m3 _ ⟨xb, ?_, ?_⟩
          · rw [nI_clamp (by omega), h70]
            exact hr.t.x b1
          · rw [nI_clamp (by omega), h70, hr.t.c b1, h62]
            refine ⟨fun _ => ?_, fun z => absurd z u⟩
            refine w269_216 xs (D + 16) _ _ m3 _ ?_
            rw [nI_1, Int32.add_zero]
            rw [if_neg u] at bs
            rw [← bs]
            refine ih (b + 1) m3 (by omega) q5 h5862 q74' (fun x hx => ?_)
            rw [ps, if_neg (fun z => u z.1)]
            exact h98 x hx
        · obtain ⟨f1, f2⟩ := h.fn hb u
          obtain ⟨e1, e2⟩ := h.c (b := b) (by omega)
          refine w269_188 xs (D + 16) _ _ _ m3 _ ⟨xb, ?_, ?_⟩
          · rw [nI_clamp (by omega), h70]
            exact hr.t.x b1
          · rw [nI_clamp (by omega), h70, hr.t.c b1, h62]
            refine ⟨fun z => absurd u z, fun _ => ⟨xb, ?_⟩⟩
            rw [if_pos u] at bs
            rw [q74' b (by omega), ← bs, (h.n b (by omega)).1]
            refine y_nx (c393 xs h.1 16 b (bsN s.1 b) (cN s.1 b) D m3 (by omega) (by omega) e1 f1 (r1 m3 q5) (fun x hx => ?_)) (by omega) (fun m4 q3 => ?_)
            · rw [h98 _ (by omega)]
              exact pm_z s.1 _ _ (Or.inr (by omega))
            · obtain ⟨p1, p2⟩ := q3
              refine w269_216 xs (D + 16) _ _ m4 _ ?_
              rw [nI_1]
              refine ih (b + 1) m4 (by omega) (q5.tr p1.t) ?_ (fun x hx => ?_) (fun x hx => ?_)
              · rw [p1.2 58 62 (by omega)]; exact h5862
              · rw [p1.2 74 x (by omega)]; exact q74' x hx
              · rw [ps, p2 x, h98 x hx]
                by_cases y : bsN s.1 b ≤ x ∧ x < bsN s.1 b + cN s.1 b
                · rw [if_pos y, if_pos ⟨u, y⟩]
                · rw [if_neg y, if_neg (fun z => y z.2)]
  -- cells of nothing
  have lz : ∀ (k i : Nat) (m2 : yM), i + k = 8192 → KT m m2 → m2.1 58 62 = bsA s.1 (s.1.1.length - 1) → (∀ x, x < i → m2.1 98 x = 0) → yP (xg xs) (D + 17) 269 111 [(0, .ref 58), (2, .int (nI i))] [] m2 (tlQ s m) := by
    intro k
    induction k with
    | zero =>
      intro i m2 hk q1 q2 q3
      have m23 : m2.1 58 23 = nI s.1.1.length := (q1.2 58 23 (by omega) (by omega) (by omega)).trans n23
      refine w269_111 xs (D + 16) _ m2 _ ⟨fun _ => ?_, fun u => absurd (nI_le (a := 8192) (by omega) (by omega)) u⟩
      rw [m23, eL, nI_clamp (by omega), q1.2 72 _ (by omega) (by omega) (by omega), (hr.b.b (b := s.1.1.length - 1) (by omega)).2.2.2.1]
      exact ⟨x_in_nI (by omega) (by decide), lb (s.1.1.length - 1) 0 m2 (by omega) q1 q2 (fun x hx => absurd hx (Nat.not_lt_zero _)) (fun x hx => q3 x (by omega))⟩
    | succ k ih =>
      intro i m2 hk q1 q2 q3
      refine w269_111 xs (D + 16) _ m2 _ ⟨fun u => absurd ((nI_leI (a := 8192) (by omega) (by omega)).mp u) (by omega), fun _ => ⟨x_in_nI (by omega) (by decide), ?_⟩⟩
      rw [nI_clamp (by omega), nI_1]
      refine ih (i + 1) _ (by omega) (q1.s (by omega)) (by rw [y_si_at, if_neg (by omega)]; exact q2) (fun x hx => ?_)
      rw [y_si_at]
      by_cases y : x = i
      · rw [if_pos ⟨rfl, y⟩]
      · rw [if_neg (fun z => y z.2)]; exact q3 x (by omega)
  exact lz 8192 0 m1 (by omega) t0 t62 (fun x hx => absurd hx (Nat.not_lt_zero _))
