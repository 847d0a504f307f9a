/-! THE WRITERS: what code of statements looks like -/
def pl (D : List IT) : Prop := ∀ x, x ∈ D → ¬ x.1 = 10 ∧ x.2.2.2.2.1 = 0 ∧ x.2.2.2.2.2 = 0
theorem pl.app {D E : List IT} (h : pl D) (h2 : pl E) : pl (D ++ E) := fun x hx => (List.mem_append.mp hx).elim (h x) (h2 x)
theorem pl.nil : pl [] := fun x hx => by cases hx
theorem pl.i {o a b c : Int32} (h : ¬ o = 10) : pl [j3 o a b c] := fun y hy => by rw [List.mem_singleton.mp hy]; exact ⟨h, rfl, rfl⟩
theorem pl.i1 {o a : Int32} (h : ¬ o = 10) : pl [j1 o a] := fun y hy => by rw [List.mem_singleton.mp hy]; exact ⟨h, rfl, rfl⟩
theorem cE_p (F : List ND) (σ : RS) : ∀ N n, pl (cE F σ N n)
  | 0, n => pl.nil
  | N + 1, n => by
    have ih := cE_p F σ N
    have cl : ∀ (f : Int32) (L : List Nat) (j : Nat), pl (clA f (cE F σ N) L j) := by
      intro f L
      induction L with
      | nil => intro j; exact pl.nil
      | cons c L ihL =>
        intro j
        show pl (cE F σ N c ++ ((if f = 3 ∧ 1 ≤ j then [j1 7 (if j = 1 then 24 else 23)] else []) ++ clA f (cE F σ N) L (j + 1)))
        refine (ih c).app (pl.app ?_ (ihL _))
        split
        · exact pl.i1 (by decide)
        · exact pl.nil
    have ow : ∀ (b f0 k : Nat), pl (cOw σ b f0 k) := by
      intro b f0 k
      induction k with
      | zero => exact pl.nil
      | succ k ihk =>
        show pl ((if (vD σ (f0 + k)).1 = 1 then [j3 6 (nI b) (vD σ (f0 + k)).2.2.2 0] else []) ++ cOw σ b f0 k)
        refine pl.app ?_ ihk
        split
        · exact pl.i (by decide)
        · exact pl.nil
    unfold cE
    split
    · exact pl.i1 (by decide)
    split
    · exact pl.i1 (by decide)
    split
    · exact (ih _).app (pl.i (by decide))
    split
    · refine (cl _ _ _).app ?_
      unfold clZ
      split
      · split
        · exact pl.i1 (by decide)
        split
        · exact pl.nil
        split
        · exact pl.nil
        · split
          · exact pl.i1 (by decide)
          · exact pl.i1 (by decide)
      · exact (ow _ _ _).app (pl.app (D := [_]) (pl.i (by decide)) (pl.i (by decide)))
    split
    · exact (ih _).app ((ih _).app (pl.i1 (by decide)))
    split
    · exact (ih _).app (pl.i1 (by decide))
    · exact pl.i1 (by decide)
theorem rgL_p (F : List ND) (σ : RS) (own : Int32) : ∀ (L : List Nat) (j : Nat), pl (rgL F σ own L j)
  | [], j => pl.nil
  | r :: L, j => by
    unfold rgL
    refine pl.app (pl.app (D := [_]) (pl.i1 (by decide)) (pl.i1 (by decide))) (pl.app ?_ (pl.app ?_ (rgL_p F σ own L (j + 1))))
    · split
      · exact pl.i1 (by decide)
      · exact pl.app (D := [_]) (pl.i1 (by decide)) (pl.app (D := [_]) (pl.i1 (by decide)) (pl.app (D := [_]) (pl.i1 (by decide)) (pl.app (D := [_]) (pl.i1 (by decide)) (pl.i1 (by decide)))))
    · split
      · exact pl.i1 (by decide)
      · exact pl.nil
/-- an instruction of a body at n, in loop ℓ, before P -/
def QX (F : List ND) (ℓ n P : Nat) (x : IT) : Prop := (x.2.2.2.2.1 = 0 → x.1 = 10 → ∃ k, k ≤ P ∧ x.2.1 = nI k) ∧ ((x.2.2.2.2.2 = 0 ∧ x.2.2.2.2.1 = 0) ∨ (x.2.2.2.2.2 = ℓ ∧ x.2.2.2.2.1 = mX ℓ ∧ x.1 = 10) ∨ (n ≤ x.2.2.2.2.2 ∧ x.2.2.2.2.2 < n + szF F n ∧ x.2.2.2.2.1 = 0))
def QE (F : List ND) (ℓ n P : Nat) (x : IT) : Prop := QX F ℓ n P x ∨ (x.2.2.2.2.1 = mE n ∧ x.1 = 10 ∧ x.2.2.2.2.2 = 0)
theorem QX.mo {F : List ND} {ℓ n c P P' : Nat} {x : IT} (h : QX F ℓ c P x) (h1 : n ≤ c) (h2 : c + szF F c ≤ n + szF F n) (h3 : P ≤ P') : QX F ℓ n P' x := by
  obtain ⟨a, b⟩ := h
  refine ⟨fun z y => ?_, ?_⟩
  · obtain ⟨k, k1, k2⟩ := a z y
    exact ⟨k, by omega, k2⟩
  · rcases b with b | b | ⟨b1, b2, b3⟩
    · exact Or.inl b
    · exact Or.inr (Or.inl b)
    · exact Or.inr (Or.inr ⟨by omega, by omega, b3⟩)
theorem pl.q {F : List ND} {ℓ n P : Nat} {D : List IT} (h : pl D) : ∀ x, x ∈ D → QX F ℓ n P x := fun x hx => ⟨fun _ z => absurd z (h x hx).1, Or.inl ⟨(h x hx).2.2, (h x hx).2.1⟩⟩
theorem QE.res {F : List ND} {ℓ n P : Nat} {D : List IT} (h : ∀ x, x ∈ D → QE F ℓ n P x) : ∀ x, x ∈ res (mE n) (nI P) D → QX F ℓ n P x := by
  intro x hx
  obtain ⟨y, y1, y2⟩ := List.mem_map.mp hx
  rw [← y2]
  rcases h y y1 with q | ⟨q1, q2, q3⟩
  · have no : ¬ y.2.2.2.2.1 = mE n := by
      obtain ⟨-, b⟩ := q
      intro z
      rcases b with ⟨b1, b2⟩ | ⟨b1, b2, b3⟩ | ⟨b1, b2, b3⟩
      · rw [b2] at z; unfold mE at z; omega
      · rw [b2] at z; unfold mE mX at z; omega
      · rw [b3] at z; unfold mE at z; omega
    unfold rs1
    rw [if_neg no]
    exact q
  · unfold rs1
    rw [if_pos q1]
    exact ⟨fun _ _ => ⟨P, Nat.le_refl _, rfl⟩, Or.inl ⟨q3, rfl⟩⟩
theorem wy_q {F : List ND} {ℓ n P : Nat} {bd : Nat → Nat → List IT} {b : Nat} (hn : n ≤ b ∧ b + szF F b ≤ n + szF F n) (hb : ∀ p x, x ∈ bd b p → QX F ℓ b (p + (bd b p).length) x) (mo : Bool) (p : Nat) (hP : p + (wy n bd b mo p).length ≤ P) : ∀ x, x ∈ wy n bd b mo p → QE F ℓ n P x := by
  have wl : (wy n bd b mo p).length = 1 + (bd b (p + 1)).length + (if mo = true then 1 else 0) := by
    unfold wy
    rw [List.length_cons, List.length_append]
    split
    · rw [List.length_singleton]; omega
    · rw [List.length_nil]; omega
  rw [wl] at hP
  unfold wy
  intro x hx
  rcases List.mem_cons.mp hx with y | y
  · rw [y]
    exact Or.inl ⟨fun _ z => absurd z (by show ¬ (11 : Int32) = 10; decide), Or.inl ⟨rfl, rfl⟩⟩
  · rcases List.mem_append.mp y with y | y
    · exact Or.inl ((hb _ x y).mo hn.1 hn.2 (by omega))
    · split at y
      · rw [List.mem_singleton.mp y]; exact Or.inr ⟨rfl, rfl, rfl⟩
      · cases y
theorem wIf_q {F : List ND} {ℓ n P : Nat} {e : Nat → List IT} {bd : Nat → Nat → List IT} (he : ∀ c, pl (e c)) : ∀ (k : Nat) (L : List Nat) (p : Nat), L.length ≤ k → (∀ b, b ∈ L → (n ≤ b ∧ b + szF F b ≤ n + szF F n) ∧ ∀ p x, x ∈ bd b p → QX F ℓ b (p + (bd b p).length) x) → p + (wIf n e bd L p).length ≤ P → ∀ x, x ∈ wIf n e bd L p → QE F ℓ n P x := by
  intro k
  induction k with
  | zero =>
    intro L p hk _ _
    rw [List.length_eq_zero_iff.mp (show L.length = 0 by omega)]
    exact fun x hx => by cases hx
  | succ k ih =>
    intro L p hk hb hP
    match L, hk, hb, hP with
    | [], _, _, _ => exact fun x hx => by cases hx
    | [b], _, hb, hP =>
      have := hb b List.mem_cons_self
      have hP : p + (bd b p).length ≤ P := hP
      exact fun x hx => Or.inl ((this.2 p x hx).mo this.1.1 this.1.2 hP)
    | g :: b :: L, hk, hb, hP =>
      have es : wIf n e bd (g :: b :: L) p = e g ++ (wy n bd b (!L.isEmpty) (p + (e g).length) ++ wIf n e bd L (p + (e g).length + (wy n bd b (!L.isEmpty) (p + (e g).length)).length)) := rfl
      rw [es] at hP ⊢
      rw [List.length_append, List.length_append] at hP
      have hbb := hb b (List.mem_cons_of_mem _ List.mem_cons_self)
      intro x hx
      rcases List.mem_append.mp hx with y | y
      · exact Or.inl ((he g).q x y)
      · rcases List.mem_append.mp y with y | y
        · exact wy_q hbb.1 hbb.2 _ _ (by omega) x y
        · exact ih L _ (by simp at hk; omega) (fun z hz => hb z (List.mem_cons_of_mem _ (List.mem_cons_of_mem _ hz))) (by omega) x y
theorem wCs_q {F : List ND} {σ : RS} {ℓ n P : Nat} {bd : Nat → Nat → List IT} : ∀ (L : List Nat) (p : Nat), (∀ c, c ∈ L → (σ.2.2.1 c = 11 → (n ≤ c ∧ c + szF F c ≤ n + szF F n) ∧ ∀ p x, x ∈ bd c p → QX F ℓ c (p + (bd c p).length) x) ∧ (¬ σ.2.2.1 c = 11 → (n ≤ lsK F c ∧ lsK F c + szF F (lsK F c) ≤ n + szF F n) ∧ ∀ p x, x ∈ bd (lsK F c) p → QX F ℓ (lsK F c) (p + (bd (lsK F c) p).length) x)) → p + (wCs F σ n bd L p).length ≤ P → ∀ x, x ∈ wCs F σ n bd L p → QE F ℓ n P x
  | [], p, _, _ => fun x hx => by cases hx
  | c :: L, p, hb, hP => by
    have hc := hb c List.mem_cons_self
    have hL := fun x hx => hb x (List.mem_cons_of_mem c hx)
    intro x hx
    unfold wCs at hx hP
    by_cases q : σ.2.2.1 c = 11
    · rw [if_pos q] at hx hP
      rw [List.length_append] at hP
      have := hc.1 q
      rcases List.mem_append.mp hx with y | y
      · exact Or.inl ((this.2 p x y).mo this.1.1 this.1.2 (by omega))
      · exact wCs_q L _ hL (by omega) x y
    · rw [if_neg q] at hx hP
      rw [List.length_append, List.length_append] at hP
      have := hc.2 q
      rcases List.mem_append.mp hx with y | y
      · exact Or.inl ((rgL_p F σ _ _ _).q x y)
      · rcases List.mem_append.mp y with y | y
        · exact wy_q this.1 this.2 _ _ (by omega) x y
        · exact wCs_q L _ hL (by omega) x y
theorem seq_q {f : Nat → Nat → List IT} {Z : Nat → IT → Prop} (hz : ∀ P P' x, P ≤ P' → Z P x → Z P' x) : ∀ (L : List Nat) (p : Nat), (∀ c, c ∈ L → ∀ p x, x ∈ f c p → Z (p + (f c p).length) x) → ∀ x, x ∈ seqC f L p → Z (p + (seqC f L p).length) x
  | [], p, _ => fun x hx => by cases hx
  | c :: L, p, h => by
    have es : seqC f (c :: L) p = f c p ++ seqC f L (p + (f c p).length) := rfl
    rw [es, List.length_append]
    intro x hx
    rcases List.mem_append.mp hx with y | y
    · exact hz _ _ x (by omega) (h c List.mem_cons_self p x y)
    · have := seq_q hz L (p + (f c p).length) (fun z hz' => h z (List.mem_cons_of_mem _ hz')) x y
      rw [Nat.add_assoc] at this
      exact this
