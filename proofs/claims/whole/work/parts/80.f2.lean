/-! THE CELLS AT THE BEGIN: all blocks -/
def cN (σ : RS) (b : Nat) : Nat := (cB σ b).toNatClampNeg
def bsN (σ : RS) : Nat → Nat
  | 0 => cN σ (σ.1.length - 1)
  | b + 1 => if (σ.1.getD b dBK).1 = 1 then bsN σ b + cN σ b else bsN σ b
def pm (σ : RS) : Nat → Nat → Int32
  | 0 => fun _ => 0
  | b + 1 => fun x => if (σ.1.getD b dBK).1 = 1 ∧ bsN σ b ≤ x ∧ x < bsN σ b + cN σ b then ivB σ 16 b (x - bsN σ b) else pm σ b x
def pmF (σ : RS) (x : Nat) : Int32 := if x < cN σ (σ.1.length - 1) then ivB σ 16 (σ.1.length - 1) x else pm σ (σ.1.length - 1) x
def HP (m0 : yM) (T : Nat) (F : List ND) (s : SU) : Prop := HL m0 T F s ∧ bsA s.1 (s.1.1.length - 1) ≤ 8192 ∧ inB s.1 3
section HPs
variable {m0 : yM} {T : Nat} {F : List ND} {s : SU}
theorem HP.c (h : HP m0 T F s) {b : Nat} (hb : b < s.1.1.length) : cB s.1 b = nI (cN s.1 b) ∧ cN s.1 b ≤ 37052 := by
  obtain ⟨c, e, c1, -⟩ := h.1.1.2.2.1.1.2.2.2.2.2.2.2.2.2.1.1 b hb
  unfold cN
  rw [e, nI_clamp (by omega)]
  exact ⟨rfl, c1⟩
theorem HP.k (h : HP m0 T F s) {b : Nat} (hb : b < s.1.1.length - 1) : (s.1.1.getD b dBK).1 = 1 ∨ (s.1.1.getD b dBK).1 = 2 := h.1.1.2.2.1.1.2.1.2.2.2.2.2.1 b (by omega)
theorem HP.l (h : HP m0 T F s) : 0 < s.1.1.length ∧ s.1.1.length ≤ 16 ∧ (s.1.1.getD (s.1.1.length - 1) dBK).1 = 3 := ⟨h.2.2.1, h.1.2.2.2, h.2.2.2⟩
theorem HP.n (h : HP m0 T F s) : ∀ b, b < s.1.1.length → bsA s.1 b = nI (bsN s.1 b) ∧ bsN s.1 b ≤ 37052 * (b + 1)
  | 0, hb => by
    have := h.c (b := s.1.1.length - 1) (by omega)
    exact ⟨this.1, by show cN s.1 _ ≤ _; omega⟩
  | b + 1, hb => by
    obtain ⟨i1, i2⟩ := HP.n h b (by omega)
    obtain ⟨c1, c2⟩ := h.c (b := b) (by omega)
    show (if (s.1.1.getD b dBK).1 = 1 then bsA s.1 b + cB s.1 b else bsA s.1 b) = nI (if (s.1.1.getD b dBK).1 = 1 then bsN s.1 b + cN s.1 b else bsN s.1 b) ∧ (if (s.1.1.getD b dBK).1 = 1 then bsN s.1 b + cN s.1 b else bsN s.1 b) ≤ _
    by_cases k : (s.1.1.getD b dBK).1 = 1
    · rw [if_pos k, if_pos k, i1, c1, nI_add]
      exact ⟨rfl, by omega⟩
    · rw [if_neg k, if_neg k]
      exact ⟨i1, by omega⟩
end HPs
theorem bsN_s (σ : RS) (b : Nat) : bsN σ b ≤ bsN σ (b + 1) := by
  show _ ≤ (if (σ.1.getD b dBK).1 = 1 then bsN σ b + cN σ b else bsN σ b)
  split <;> omega
theorem bsN_le (σ : RS) : ∀ k b, bsN σ b ≤ bsN σ (b + k)
  | 0, b => Nat.le_refl _
  | k + 1, b => Nat.le_trans (bsN_le σ k b) (bsN_s σ (b + k))
theorem HP.le {m0 : yM} {T : Nat} {F : List ND} {s : SU} (h : HP m0 T F s) {b : Nat} (hb : b < s.1.1.length) : bsN s.1 b ≤ 8192 := by
  obtain ⟨l1, l2, -⟩ := h.l
  obtain ⟨a1, a2⟩ := h.n (s.1.1.length - 1) (by omega)
  have b1 := h.2.1
  rw [a1] at b1
  have b1 := (nI_leI (b := 8192) (by omega) (by omega)).mp b1
  have b2 := bsN_le s.1 (s.1.1.length - 1 - b) b
  rw [show b + (s.1.1.length - 1 - b) = s.1.1.length - 1 by omega] at b2
  omega
theorem HP.fn {m0 : yM} {T : Nat} {F : List ND} {s : SU} (h : HP m0 T F s) {b : Nat} (hb : b < s.1.1.length - 1) (k : (s.1.1.getD b dBK).1 = 1) : bsN s.1 b + cN s.1 b ≤ 8192 ∧ bsN s.1 (b + 1) = bsN s.1 b + cN s.1 b := by
  have e : bsN s.1 (b + 1) = bsN s.1 b + cN s.1 b := by
    show (if (s.1.1.getD b dBK).1 = 1 then bsN s.1 b + cN s.1 b else bsN s.1 b) = _
    rw [if_pos k]
  have := h.le (b := b + 1) (by omega)
  omega
theorem pm_z (σ : RS) : ∀ b x, x < cN σ (σ.1.length - 1) ∨ bsN σ b ≤ x → pm σ b x = 0
  | 0, _, _ => rfl
  | b + 1, x, h => by
    have i := bsN_le σ b 0
    rw [Nat.zero_add] at i
    have i : cN σ (σ.1.length - 1) ≤ bsN σ b := i
    have j := bsN_s σ b
    show (if (σ.1.getD b dBK).1 = 1 ∧ bsN σ b ≤ x ∧ x < bsN σ b + cN σ b then ivB σ 16 b (x - bsN σ b) else pm σ b x) = 0
    rw [if_neg, pm_z σ b x (by omega)]
    rintro ⟨k, u1, u2⟩
    have e : bsN σ (b + 1) = bsN σ b + cN σ b := by
      show (if (σ.1.getD b dBK).1 = 1 then bsN σ b + cN σ b else bsN σ b) = _
      rw [if_pos k]
    omega
/-- what prepare leaves -/
def prQ (s : SU) (m : yM) (r : Option Value) (m' : yM) : Prop := r = none ∧ m'.2 = m.2 ∧ (∀ a i, ¬ a = 53 → ¬ (a = 52 ∧ (i = 1 ∨ i = 2)) → m'.1 a i = m.1 a i) ∧ m'.1 52 1 = 0 ∧ m'.1 52 2 = 0 ∧ ∀ x, x < 8192 → m'.1 53 x = pmF s.1 x
theorem c231 (xs : List Int32) (D : Nat) {m0 : yM} {T : Nat} {F : List ND} {s : SU} {m : yM} (h : HP m0 T F s) (hc : CR F s.1 m) (hb : BA s.1 m) (hz : Z27 s.1 m) : yC (xg xs) (D + 19) 231 [.ref 52] m (prQ s m) := by
  obtain ⟨l1, l2, l3⟩ := h.l
  refine w231_0 xs (D + 18) m _ (y_cv (c21_53 xs (D + 18) _ 0) (by omega) ?_)
  generalize hm1 : y_fill (y_si (y_si m 52 1 0) 52 2 0) 53 8192 0 = m1
  have k0 : m1.2 = m.2 := by rw [← hm1]; rfl
  have k1 : ∀ a i, ¬ a = 53 → ¬ (a = 52 ∧ (i = 1 ∨ i = 2)) → m1.1 a i = m.1 a i := fun a i u1 u2 => by
    rw [← hm1, y_fill_o _ _ _ _ _ u1, y_si_at, if_neg (by omega), y_si_at, if_neg (by omega)]
  have k2 : m1.1 52 1 = 0 := by rw [← hm1, y_fill_o _ _ _ _ _ (by decide), y_si_at, if_neg (by omega), y_si_at, if_pos ⟨rfl, rfl⟩]
  have k3 : m1.1 52 2 = 0 := by rw [← hm1, y_fill_o _ _ _ _ _ (by decide), y_si_at, if_pos ⟨rfl, rfl⟩]
  have k4 : ∀ x, x < 8192 → m1.1 53 x = 0 := fun x hx => by rw [← hm1, y_fill_in _ _ _ _ _ hx]
  clear hm1
  have c1 : CR F s.1 m1 := hc.ek (fun a i ha => k1 a i (by omega) (by omega))
  have b27 : ∀ b, m1.1 27 b = m.1 27 b := fun b => k1 27 b (by omega) (by omega)
  have lp : ∀ (k b : Nat) (m2 : yM), b + k = s.1.1.length - 1 → K53 m1 m2 → (∀ x, x < 8192 → m2.1 53 x = pm s.1 b x) → yP (xg xs) (D + 19) 231 20 [(0, .ref 52), (1, .int (nI b))] [] m2 (prQ s m) := by
    intro k
    induction k with
    | zero =>
      intro b m2 hk q1 q2
      have eb : b = s.1.1.length - 1 := by omega
      subst eb
      have c2 := c1.k53 q1
      have t := c2.b (b := s.1.1.length - 1) (by omega)
      refine w231_20 xs (D + 18) _ m2 _ ⟨fun u => ?_, fun _ => ⟨x_in_nI (by omega) (by decide), ?_⟩⟩
      · rw [c2.nB.1] at u
        exact absurd ((nI_leI (by omega) (by omega)).mp u) (by omega)
      · rw [nI_clamp (by omega), t.1, l3, q1.2 27 _ (by omega), b27, hz l1]
        refine ⟨fun u => absurd u (by decide), fun _ => ⟨x_in_nI (by omega) (by decide), ?_⟩⟩
        obtain ⟨e1, e2⟩ := h.c (b := s.1.1.length - 1) (by omega)
        have e3 : cN s.1 (s.1.1.length - 1) ≤ 8192 := h.le (b := 0) l1
        refine y_nx (c232 xs h.1 16 (s.1.1.length - 1) 0 0 (cN s.1 (s.1.1.length - 1)) D m2 (by omega) (by omega) (by omega) e1 (by omega) c2 (fun x hx => ?_)) (by omega) (fun m3 q3 => ?_)
        · rw [Nat.zero_add, q2 x (by omega)]
          exact pm_z s.1 _ x (Or.inl hx)
        · obtain ⟨p1, p2⟩ := q3
          refine w231_59 xs (D + 18) _ m3 _ ?_
          rw [nI_1]
          refine w231_20 xs (D + 18) _ m3 _ ⟨fun _ => ?_, fun u => absurd ?_ u⟩
          · have q4 := q1.tr p1
            refine ⟨rfl, q4.1.trans k0, fun a i u1 u2 => (q4.2 a i u1).trans (k1 a i u1 u2), (q4.2 52 1 (by omega)).trans k2, (q4.2 52 2 (by omega)).trans k3, fun x hx => ?_⟩
            rw [p2 x, Nat.zero_add, Nat.sub_zero, q2 x hx]
            unfold pmF
            by_cases y : x < cN s.1 (s.1.1.length - 1)
            · rw [if_pos ⟨Nat.zero_le _, y⟩, if_pos y]
            · rw [if_neg (fun z => y z.2), if_neg y]
          · rw [(c2.k53 p1).nB.1]
            exact nI_le (by omega) (by omega)
    | succ k ih =>
      intro b m2 hk q1 q2
      have c2 := c1.k53 q1
      have t := c2.b (b := b) (by omega)
      refine w231_20 xs (D + 18) _ m2 _ ⟨fun u => ?_, fun _ => ⟨x_in_nI (by omega) (by decide), ?_⟩⟩
      · rw [c2.nB.1] at u
        exact absurd ((nI_leI (by omega) (by omega)).mp u) (by omega)
      · rw [nI_clamp (by omega), t.1]
        have ps : ∀ x, pm s.1 (b + 1) x = if (s.1.1.getD b dBK).1 = 1 ∧ bsN s.1 b ≤ x ∧ x < bsN s.1 b + cN s.1 b then ivB s.1 16 b (x - bsN s.1 b) else pm s.1 b x := fun _ => rfl
        refine ⟨fun u => ?_, fun u => ⟨x_in_nI (by omega) (by decide), ?_⟩⟩
        · refine w231_59 xs (D + 18) _ m2 _ ?_
          rw [nI_1]
          refine ih (b + 1) m2 (by omega) q1 (fun x hx => ?_)
          rw [ps, u, if_neg (fun z => absurd z.1 (by decide))]
          exact q2 x hx
        · have k1' : (s.1.1.getD b dBK).1 = 1 := (h.k (by omega)).resolve_right u
          obtain ⟨f1, f2⟩ := h.fn (by omega) k1'
          obtain ⟨e1, e2⟩ := h.c (b := b) (by omega)
          rw [q1.2 27 _ (by omega), b27, hb.2 b (by omega) k1', (h.n b (by omega)).1]
          refine y_nx (c232 xs h.1 16 b 0 (bsN s.1 b) (cN s.1 b) D m2 (by omega) (by omega) (by omega) e1 f1 c2 (fun x hx => ?_)) (by omega) (fun m3 q3 => ?_)
          · rw [q2 _ (by omega)]
            exact pm_z s.1 _ _ (Or.inr (by omega))
          · obtain ⟨p1, p2⟩ := q3
            refine w231_59 xs (D + 18) _ m3 _ ?_
            rw [nI_1]
            refine ih (b + 1) m3 (by omega) (q1.tr p1) (fun x hx => ?_)
            rw [ps, p2 x, q2 x hx]
            by_cases y : bsN s.1 b ≤ x ∧ x < bsN s.1 b + cN s.1 b
            · rw [if_pos y, if_pos ⟨k1', y⟩]
            · rw [if_neg y, if_neg (fun z => y z.2)]
  exact lp (s.1.1.length - 1) 0 m1 (by omega) (K53.re m1) k4
