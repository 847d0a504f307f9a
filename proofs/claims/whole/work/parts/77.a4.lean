/-! THE WRITER: statements, what they come to -/
def seqC (f : Nat → Nat → List IT) : List Nat → Nat → List IT
  | [] => fun _ => []
  | c :: L => fun p => f c p ++ seqC f L (p + (f c p).length)
/-- a body that is gone over if its condition fails -/
def wy (n : Nat) (bd : Nat → Nat → List IT) (b : Nat) (mo : Bool) (p : Nat) : List IT := (11, nI (p + 1 + (bd b (p + 1)).length + (if mo = true then 1 else 0)), 0, 0, 0, 0) :: (bd b (p + 1) ++ (if mo = true then [(10, 0, 0, 0, mE n, 0)] else []))
def wIf (n : Nat) (e : Nat → List IT) (bd : Nat → Nat → List IT) : List Nat → Nat → List IT
  | [] => fun _ => []
  | [b] => fun p => bd b p
  | g :: b :: L => fun p => e g ++ (wy n bd b (!L.isEmpty) (p + (e g).length) ++ wIf n e bd L (p + (e g).length + (wy n bd b (!L.isEmpty) (p + (e g).length)).length))
def rgL (F : List ND) (σ : RS) (own : Int32) : List Nat → Nat → List IT
  | [] => fun _ => []
  | r :: L => fun j => [j1 1 own, j1 0 (σ.2.2.2.1 (r + 1))] ++ ((if szF F r = 2 then [j1 7 13] else [j1 7 18, j1 1 own, j1 0 (σ.2.2.2.1 (r + 2)), j1 7 17, j1 7 10]) ++ ((if 1 ≤ j then [j1 7 11] else []) ++ rgL F σ own L (j + 1)))
/-- the ranges of a case, its body -/
def rgK (F : List ND) (c : Nat) : List Nat := (kids F c).dropLast
def lsK (F : List ND) (c : Nat) : Nat := (kids F c).getD ((kids F c).length - 1) 0
def wCs (F : List ND) (σ : RS) (n : Nat) (bd : Nat → Nat → List IT) : List Nat → Nat → List IT
  | [] => fun _ => []
  | c :: L => fun p => if σ.2.2.1 c = 11 then bd c p ++ wCs F σ n bd L (p + (bd c p).length) else rgL F σ (σ.2.2.2.2 n) (rgK F c) 0 ++ (wy n bd (lsK F c) (!L.isEmpty) (p + (rgL F σ (σ.2.2.2.2 n) (rgK F c) 0).length) ++ wCs F σ n bd L (p + (rgL F σ (σ.2.2.2.2 n) (rgK F c) 0).length + (wy n bd (lsK F c) (!L.isEmpty) (p + (rgL F σ (σ.2.2.2.2 n) (rgK F c) 0).length)).length))
def wIv (F : List ND) (σ : RS) (e : Nat → List IT) : List Nat → List IT
  | [] => []
  | c :: L => e (c + 1) ++ ([j1 2 (σ.2.2.2.1 c)] ++ wIv F σ e L)
def clV (σ : RS) (n : Nat) : Int32 := (vD σ (σ.2.2.2.1 n).toNatClampNeg).2.2.2
def bdF (σ : RS) (n : Nat) : Nat := if σ.2.2.1 (n + 3) = 11 then n + 3 else n + 4
def fr1 (σ : RS) (n : Nat) : List IT := [j1 0 (σ.2.2.2.1 (n + 1)), j1 2 (clV σ n), j3 12 (σ.2.2.2.2 n) (tms σ n).toInt32 0]
def fr2 (σ : RS) (n p : Nat) : List IT := [j1 1 (clV σ n), j1 0 (stp σ n), j1 7 (if tyV σ (σ.2.2.2.1 n).toNatClampNeg = 1 then 0 else 5), j1 2 (clV σ n), j1 14 (nI (p + 3))]
/-- a statement: bd writes a body -/
def wT (F : List ND) (σ : RS) (e : Nat → List IT) (bd : Nat → Nat → Nat → List IT) (ℓ n p : Nat) : List IT :=
  if σ.2.2.1 n = 12 then (if σ.2.2.1 (n + 1) = 32 then e (n + 2) ++ (e (n + 1 + szF F (n + 1)) ++ [cEl σ 4 (σ.2.2.2.1 (n + 1)).toNatClampNeg]) else e (n + 1 + szF F (n + 1)) ++ [j1 2 (clV σ (n + 1))])
  else if σ.2.2.1 n = 13 then wIv F σ e (kids F n) ++ [if 9 ≤ σ.2.2.2.1 (vD σ (σ.2.2.2.1 n).toNatClampNeg).2.1 then j3 15 (σ.2.2.2.1 (vD σ (σ.2.2.2.1 n).toNatClampNeg).2.1 - 9) (clV σ n) 0 else j3 17 (σ.2.2.2.1 (vD σ (σ.2.2.2.1 n).toNatClampNeg).2.1) (clV σ n) 0]
  else if σ.2.2.1 n = 15 then res (mE n) (nI (p + (wIf n e (bd ℓ) (kids F n) p).length)) (wIf n e (bd ℓ) (kids F n) p)
  else if σ.2.2.1 n = 16 then res (mE n) (nI (p + (e (n + 1) ++ ([j1 2 (σ.2.2.2.2 n)] ++ wCs F σ n (bd ℓ) (kids F n).tail (p + (e (n + 1)).length + 1))).length)) (e (n + 1) ++ ([j1 2 (σ.2.2.2.2 n)] ++ wCs F σ n (bd ℓ) (kids F n).tail (p + (e (n + 1)).length + 1)))
  else if σ.2.2.1 n = 19 then res (mX n) (nI (p + 9 + (bd n (bdF σ n) (p + 4)).length)) (fr1 σ n ++ ((13, σ.2.2.2.2 n, nI (p + 9 + (bd n (bdF σ n) (p + 4)).length), 0, 0, 0) :: (bd n (bdF σ n) (p + 4) ++ fr2 σ n p)))
  else if σ.2.2.1 n = 20 then [(10, 0, 0, 0, mX ℓ, ℓ)]
  else [j1 18 0]
def wB (F : List ND) (σ : RS) : Nat → Nat → Nat → Nat → List IT
  | 0 => fun _ _ _ => []
  | N + 1 => fun ℓ n p => seqC (wT F σ (cE F σ N) (wB F σ N) ℓ) (kids F n) p
/-- marks of code: none, or the loop's -/
def mk2 (ℓ : Nat) (D : List IT) : Prop := ∀ x, x ∈ D → x.2.2.2.2.1 = 0 ∨ x.2.2.2.2.1 = mX ℓ
def mk0 (D : List IT) : Prop := ∀ x, x ∈ D → x.2.2.2.2.1 = 0
theorem mk0.app {D E : List IT} (h : mk0 D) (h2 : mk0 E) : mk0 (D ++ E) := fun x hx => (List.mem_append.mp hx).elim (h x) (h2 x)
theorem mk2.app {ℓ : Nat} {D E : List IT} (h : mk2 ℓ D) (h2 : mk2 ℓ E) : mk2 ℓ (D ++ E) := fun x hx => (List.mem_append.mp hx).elim (h x) (h2 x)
theorem mk0.w {ℓ : Nat} {D : List IT} (h : mk0 D) : mk2 ℓ D := fun x hx => Or.inl (h x hx)
theorem mk0.nil : mk0 [] := fun x hx => by cases hx
theorem mk0.i {x : IT} (h : x.2.2.2.2.1 = 0) : mk0 [x] := fun y hy => by rw [List.mem_singleton.mp hy]; exact h
theorem cE_0 (F : List ND) (σ : RS) : ∀ N n, mk0 (cE F σ N n)
  | 0, n => mk0.nil
  | N + 1, n => by
    have ih := cE_0 F σ N
    have cl : ∀ (f : Int32) (L : List Nat) (j : Nat), mk0 (clA f (cE F σ N) L j) := by
      intro f L
      induction L with
      | nil => intro j; exact mk0.nil
      | cons c L ihL =>
        intro j
        show mk0 (cE F σ N c ++ ((if f = 3 ∧ 1 ≤ j then [j1 7 (if j = 1 then 24 else 23)] else []) ++ clA f (cE F σ N) L (j + 1)))
        refine (ih c).app (mk0.app ?_ (ihL _))
        split
        · exact mk0.i rfl
        · exact mk0.nil
    have ow : ∀ (b f0 k : Nat), mk0 (cOw σ b f0 k) := by
      intro b f0 k
      induction k with
      | zero => exact mk0.nil
      | succ k ihk =>
        show mk0 ((if (vD σ (f0 + k)).1 = 1 then [j3 6 (nI b) (vD σ (f0 + k)).2.2.2 0] else []) ++ cOw σ b f0 k)
        refine mk0.app ?_ ihk
        split
        · exact mk0.i rfl
        · exact mk0.nil
    unfold cE
    split
    · exact mk0.i rfl
    split
    · exact mk0.i rfl
    split
    · exact (ih _).app (mk0.i rfl)
    split
    · refine (cl _ _ _).app ?_
      unfold clZ
      split
      · split
        · exact mk0.i rfl
        split
        · exact mk0.nil
        split
        · exact mk0.nil
        · exact mk0.i rfl
      · exact (ow _ _ _).app (mk0.app (D := [j3 16 (σ.2.2.2.1 n - 10) 0 0]) (mk0.i rfl) (mk0.i rfl))
    split
    · exact (ih _).app ((ih _).app (mk0.i rfl))
    split
    · exact (ih _).app (mk0.i rfl)
    · exact mk0.i rfl
theorem rgL_0 (F : List ND) (σ : RS) (own : Int32) : ∀ (L : List Nat) (j : Nat), mk0 (rgL F σ own L j)
  | [], j => mk0.nil
  | r :: L, j => by
    unfold rgL
    refine mk0.app (fun x hx => ?_) (mk0.app ?_ (mk0.app ?_ (rgL_0 F σ own L (j + 1))))
    · rcases List.mem_cons.mp hx with y | y
      · rw [y]; rfl
      · rw [List.mem_singleton.mp y]; rfl
    · split
      · exact mk0.i rfl
      · intro x hx
        simp only [List.mem_cons, List.mem_nil_iff, or_false] at hx
        rcases hx with y | y | y | y | y <;> rw [y] <;> rfl
    · split
      · exact mk0.i rfl
      · exact mk0.nil
/-- marks of a statement's code while it is open: its own end too -/
def mk3 (ℓ n : Nat) (D : List IT) : Prop := ∀ x, x ∈ D → x.2.2.2.2.1 = 0 ∨ x.2.2.2.2.1 = mX ℓ ∨ x.2.2.2.2.1 = mE n
theorem mk3.app {ℓ n : Nat} {D E : List IT} (h : mk3 ℓ n D) (h2 : mk3 ℓ n E) : mk3 ℓ n (D ++ E) := fun x hx => (List.mem_append.mp hx).elim (h x) (h2 x)
theorem mk2.w {ℓ n : Nat} {D : List IT} (h : mk2 ℓ D) : mk3 ℓ n D := fun x hx => (h x hx).imp id Or.inl
theorem mk3.res {ℓ n : Nat} {D : List IT} (h : mk3 ℓ n D) (v : Int32) : mk2 ℓ (res (mE n) v D) := by
  intro x hx
  obtain ⟨y, y1, y2⟩ := List.mem_map.mp hx
  rw [← y2]
  unfold rs1
  by_cases c : y.2.2.2.2.1 = mE n
  · rw [if_pos c]; exact Or.inl rfl
  · rw [if_neg c]
    rcases h y y1 with z | z | z
    · exact Or.inl z
    · exact Or.inr z
    · exact absurd z c
theorem wy_3 {n ℓ : Nat} {bd : Nat → Nat → List IT} (hb : ∀ b p, mk2 ℓ (bd b p)) (b : Nat) (mo : Bool) (p : Nat) : mk3 ℓ n (wy n bd b mo p) := by
  unfold wy
  refine mk3.app (D := [_]) (fun x hx => ?_) ((hb b _).w.app (fun x hx => ?_))
  · rw [List.mem_singleton.mp hx]; exact Or.inl rfl
  · split at hx
    · rw [List.mem_singleton.mp hx]; exact Or.inr (Or.inr rfl)
    · cases hx
theorem wIf_3 {n ℓ : Nat} {e : Nat → List IT} {bd : Nat → Nat → List IT} (he : ∀ c, mk0 (e c)) (hb : ∀ b p, mk2 ℓ (bd b p)) : ∀ (k : Nat) (L : List Nat) (p : Nat), L.length ≤ k → mk3 ℓ n (wIf n e bd L p) := by
  intro k
  induction k with
  | zero =>
    intro L p hk
    rw [List.length_eq_zero_iff.mp (show L.length = 0 by omega)]
    exact fun x hx => by cases hx
  | succ k ih =>
    intro L p hk
    match L, hk with
    | [], _ => exact fun x hx => by cases hx
    | [b], _ => exact (hb b p).w
    | g :: b :: L, hk =>
      show mk3 ℓ n (e g ++ (wy n bd b (!L.isEmpty) (p + (e g).length) ++ wIf n e bd L (p + (e g).length + (wy n bd b (!L.isEmpty) (p + (e g).length)).length)))
      exact (he g).w.w.app ((wy_3 hb b _ _).app (ih L _ (by simp at hk; omega)))
theorem wCs_3 {F : List ND} {σ : RS} {n ℓ : Nat} {bd : Nat → Nat → List IT} (hb : ∀ b p, mk2 ℓ (bd b p)) : ∀ (L : List Nat) (p : Nat), mk3 ℓ n (wCs F σ n bd L p)
  | [], p => fun x hx => by cases hx
  | c :: L, p => by
    unfold wCs
    split
    · exact (hb c p).w.app (wCs_3 hb L _)
    · exact (rgL_0 F σ _ _ _).w.w.app ((wy_3 hb _ _ _).app (wCs_3 hb L _))
theorem wT_2 {F : List ND} {σ : RS} {e : Nat → List IT} {bd : Nat → Nat → Nat → List IT} (he : ∀ c, mk0 (e c)) (hb : ∀ ℓ b p, mk2 ℓ (bd ℓ b p)) (ℓ n p : Nat) : mk2 ℓ (wT F σ e bd ℓ n p) := by
  have iv : ∀ L, mk0 (wIv F σ e L) := by
    intro L
    induction L with
    | nil => exact mk0.nil
    | cons c L ih => exact (he _).app ((mk0.i rfl).app ih)
  unfold wT
  split
  · split
    · exact ((he _).app ((he _).app (mk0.i rfl))).w
    · exact ((he _).app (mk0.i rfl)).w
  split
  · refine ((iv _).app (fun x hx => ?_)).w
    rw [List.mem_singleton.mp hx]
    split <;> rfl
  split
  · exact (wIf_3 he (hb ℓ) _ _ _ (Nat.le_refl _)).res _
  split
  · exact ((he _).w.w.app ((mk0.i rfl).w.w.app (wCs_3 (hb ℓ) _ _))).res _
  split
  · intro x hx
    obtain ⟨y, y1, y2⟩ := List.mem_map.mp hx
    have f1 : mk0 (fr1 σ n) := by
      intro z hz
      unfold fr1 at hz
      simp only [List.mem_cons, List.mem_nil_iff, or_false] at hz
      rcases hz with w | w | w <;> rw [w] <;> rfl
    have f2 : mk0 (fr2 σ n p) := by
      intro z hz
      unfold fr2 at hz
      simp only [List.mem_cons, List.mem_nil_iff, or_false] at hz
      rcases hz with w | w | w | w | w <;> rw [w] <;> rfl
    have yk : y.2.2.2.2.1 = 0 ∨ y.2.2.2.2.1 = mX n := by
      rcases List.mem_append.mp y1 with w | w
      · exact Or.inl (f1 y w)
      · rcases List.mem_cons.mp w with w | w
        · rw [w]; exact Or.inl rfl
        · rcases List.mem_append.mp w with w | w
          · exact hb n _ _ y w
          · exact Or.inl (f2 y w)
    rw [← y2]
    unfold rs1
    by_cases c : y.2.2.2.2.1 = mX n
    · rw [if_pos c]; exact Or.inl rfl
    · rw [if_neg c]; exact Or.inl (yk.resolve_right c)
  split
  · intro x hx
    rw [List.mem_singleton.mp hx]
    exact Or.inr rfl
  · exact (mk0.i rfl).w
theorem seq_2 {f : Nat → Nat → List IT} {ℓ : Nat} (h : ∀ c p, mk2 ℓ (f c p)) : ∀ (L : List Nat) (p : Nat), mk2 ℓ (seqC f L p)
  | [], p => fun x hx => by cases hx
  | c :: L, p => (h c p).app (seq_2 h L _)
theorem wB_2 (F : List ND) (σ : RS) : ∀ N ℓ n p, mk2 ℓ (wB F σ N ℓ n p)
  | 0, ℓ, n, p => fun x hx => by cases hx
  | N + 1, ℓ, n, p => seq_2 (fun c q => wT_2 (cE_0 F σ N) (wB_2 F σ N) ℓ c q) _ _
