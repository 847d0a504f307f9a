/-! MEASURE: which instructions there are -/
def iOps (D : List IT) : Prop := ∀ x, x ∈ D → ∃ k, k < 19 ∧ x.1 = nI k
theorem iOps.app {D E : List IT} (h : iOps D) (h2 : iOps E) : iOps (D ++ E) := fun x hx => (List.mem_append.mp hx).elim (h x) (h2 x)
theorem iOps.nil : iOps [] := fun x hx => by cases hx
theorem iOps.i {x : IT} (k : Nat) (hk : k < 19) (h : x.1 = nI k) : iOps [x] := fun y hy => by rw [List.mem_singleton.mp hy]; exact ⟨k, hk, h⟩
theorem iOps.res {D : List IT} (h : iOps D) (μ : Nat) (v : Int32) : iOps (D.map (rs1 μ v)) := fun x hx => by
  obtain ⟨y, y1, y2⟩ := List.mem_map.mp hx
  obtain ⟨k, k1, k2⟩ := h y y1
  refine ⟨k, k1, ?_⟩
  rw [← y2]
  unfold rs1
  split
  · exact k2
  · exact k2
theorem cE_o (F : List ND) (σ : RS) : ∀ N n, iOps (cE F σ N n)
  | 0, n => iOps.nil
  | N + 1, n => by
    have ih := cE_o F σ N
    have cl : ∀ (f : Int32) (L : List Nat) (j : Nat), iOps (clA f (cE F σ N) L j) := by
      intro f L
      induction L with
      | nil => intro j; exact iOps.nil
      | cons c L ihL =>
        intro j
        show iOps (cE F σ N c ++ ((if f = 3 ∧ 1 ≤ j then [j1 7 (if j = 1 then 24 else 23)] else []) ++ clA f (cE F σ N) L (j + 1)))
        refine (ih c).app (iOps.app ?_ (ihL _))
        split
        · exact iOps.i 7 (by omega) rfl
        · exact iOps.nil
    have ow : ∀ (b f0 k : Nat), iOps (cOw σ b f0 k) := by
      intro b f0 k
      induction k with
      | zero => exact iOps.nil
      | succ k ihk =>
        show iOps ((if (vD σ (f0 + k)).1 = 1 then [j3 6 (nI b) (vD σ (f0 + k)).2.2.2 0] else []) ++ cOw σ b f0 k)
        refine iOps.app ?_ ihk
        split
        · exact iOps.i 6 (by omega) rfl
        · exact iOps.nil
    unfold cE
    split
    · exact iOps.i 1 (by omega) rfl
    split
    · exact iOps.i 1 (by omega) rfl
    split
    · exact (ih _).app (iOps.i 3 (by omega) rfl)
    split
    · refine (cl _ _ _).app ?_
      unfold clZ
      split
      · split
        · exact iOps.i 9 (by omega) rfl
        split
        · exact iOps.nil
        split
        · exact iOps.nil
        · split
          · exact iOps.i 8 (by omega) rfl
          · exact iOps.i 7 (by omega) rfl
      · exact (ow _ _ _).app (iOps.app (D := [_]) (iOps.i 16 (by omega) rfl) (iOps.i 5 (by omega) rfl))
    split
    · exact (ih _).app ((ih _).app (iOps.i 7 (by omega) rfl))
    split
    · exact (ih _).app (iOps.i 8 (by omega) rfl)
    · exact iOps.i 0 (by omega) rfl
theorem rgL_o (F : List ND) (σ : RS) (own : Int32) : ∀ (L : List Nat) (j : Nat), iOps (rgL F σ own L j)
  | [], j => iOps.nil
  | r :: L, j => by
    unfold rgL
    refine iOps.app (iOps.app (D := [_]) (iOps.i 1 (by omega) rfl) (iOps.i 0 (by omega) rfl)) (iOps.app ?_ (iOps.app ?_ (rgL_o F σ own L (j + 1))))
    · split
      · exact iOps.i 7 (by omega) rfl
      · exact iOps.app (D := [_]) (iOps.i 7 (by omega) rfl) (iOps.app (D := [_]) (iOps.i 1 (by omega) rfl) (iOps.app (D := [_]) (iOps.i 0 (by omega) rfl) (iOps.app (D := [_]) (iOps.i 7 (by omega) rfl) (iOps.i 7 (by omega) rfl))))
    · split
      · exact iOps.i 7 (by omega) rfl
      · exact iOps.nil
theorem wy_o {n : Nat} {bd : Nat → Nat → List IT} (hb : ∀ b p, iOps (bd b p)) (b : Nat) (mo : Bool) (p : Nat) : iOps (wy n bd b mo p) := by
  unfold wy
  refine iOps.app (D := [_]) (iOps.i 11 (by omega) rfl) ((hb b _).app ?_)
  split
  · exact iOps.i 10 (by omega) rfl
  · exact iOps.nil
theorem wIf_o {n : Nat} {e : Nat → List IT} {bd : Nat → Nat → List IT} (he : ∀ c, iOps (e c)) (hb : ∀ b p, iOps (bd b p)) : ∀ (k : Nat) (L : List Nat) (p : Nat), L.length ≤ k → iOps (wIf n e bd L p) := by
  intro k
  induction k with
  | zero =>
    intro L p hk
    rw [List.length_eq_zero_iff.mp (show L.length = 0 by omega)]
    exact iOps.nil
  | succ k ih =>
    intro L p hk
    match L, hk with
    | [], _ => exact iOps.nil
    | [b], _ => exact hb b p
    | g :: b :: L, hk =>
      show iOps (e g ++ (wy n bd b (!L.isEmpty) (p + (e g).length) ++ wIf n e bd L (p + (e g).length + (wy n bd b (!L.isEmpty) (p + (e g).length)).length)))
      exact (he g).app ((wy_o hb b _ _).app (ih L _ (by simp at hk; omega)))
theorem wCs_o {F : List ND} {σ : RS} {n : Nat} {bd : Nat → Nat → List IT} (hb : ∀ b p, iOps (bd b p)) : ∀ (L : List Nat) (p : Nat), iOps (wCs F σ n bd L p)
  | [], p => iOps.nil
  | c :: L, p => by
    unfold wCs
    split
    · exact (hb c p).app (wCs_o hb L _)
    · exact (rgL_o F σ _ _ _).app ((wy_o hb _ _ _).app (wCs_o hb L _))
theorem wT_o {F : List ND} {σ : RS} {e : Nat → List IT} {bd : Nat → Nat → Nat → List IT} (he : ∀ c, iOps (e c)) (hb : ∀ ℓ b p, iOps (bd ℓ b p)) (ℓ n p : Nat) : iOps (wT F σ e bd ℓ n p) := by
  have iv : ∀ L, iOps (wIv F σ e L) := by
    intro L
    induction L with
    | nil => exact iOps.nil
    | cons c L ih => exact (he _).app ((iOps.i 2 (by omega) rfl).app ih)
  unfold wT
  split
  · split
    · exact (he _).app ((he _).app (iOps.i 4 (by omega) rfl))
    · exact (he _).app (iOps.i 2 (by omega) rfl)
  split
  · refine (iv _).app ?_
    split
    · exact iOps.i 15 (by omega) rfl
    · exact iOps.i 17 (by omega) rfl
  split
  · exact (wIf_o he (hb ℓ) _ _ _ (Nat.le_refl _)).res _ _
  split
  · exact ((he _).app ((iOps.i 2 (by omega) rfl).app (wCs_o (hb ℓ) _ _))).res _ _
  split
  · refine iOps.res (iOps.app ?_ (iOps.app (D := [_]) (iOps.i 13 (by omega) rfl) ((hb _ _ _).app ?_))) _ _
    · exact iOps.app (D := [_]) (iOps.i 0 (by omega) rfl) (iOps.app (D := [_]) (iOps.i 2 (by omega) rfl) (iOps.i 12 (by omega) rfl))
    · exact iOps.app (D := [_]) (iOps.i 1 (by omega) rfl) (iOps.app (D := [_]) (iOps.i 0 (by omega) rfl) (iOps.app (D := [_]) (iOps.i 7 (by omega) rfl) (iOps.app (D := [_]) (iOps.i 2 (by omega) rfl) (iOps.i 14 (by omega) rfl))))
  split
  · exact iOps.i 10 (by omega) rfl
  · exact iOps.i 18 (by omega) rfl
theorem seq_o {f : Nat → Nat → List IT} (h : ∀ c p, iOps (f c p)) : ∀ (L : List Nat) (p : Nat), iOps (seqC f L p)
  | [], p => iOps.nil
  | c :: L, p => (h c p).app (seq_o h L _)
theorem wB_o (F : List ND) (σ : RS) : ∀ N ℓ n p, iOps (wB F σ N ℓ n p)
  | 0, ℓ, n, p => iOps.nil
  | N + 1, ℓ, n, p => seq_o (fun c q => wT_o (cE_o F σ N) (wB_o F σ N) ℓ c q) _ _
