/-! TOKENS OF THE REFERENCE: signs and places -/
/-- a sign of two bytes as the reference numbers it -/
def twI (f : Nat → Nat) (n p : Nat) : Int32 := if twN f n p = 0 then -1 else nI (twN f n p - 69)
def sgF (c : Nat) : Nat → Bool
  | 0 => false
  | i + 1 => sgF c i || decide (xsb_4.getD i 0 = nI c)
theorem sgF_all : ∀ c, c < 256 → (sgF c 17 = decide (isSg c)) := by decide +kernel
theorem c289L (xs : List Int32) (d : Nat) (m : yM) (Q : Option Value → yM → Prop) (c : Nat) (l3 : Int32) (K : yP (xg xs) (d + 4) 289 99 [(0, .ref 58), (1, .int (nI c)), (3, .int l3), (4, .int (if sgF c 17 = true then 1 else 0)), (5, .int (nI 17))] [] m Q) : ∀ q i : Nat, i + q = 17 → yP (xg xs) (d + 4) 289 99 [(0, .ref 58), (1, .int (nI c)), (3, .int l3), (4, .int (if sgF c i = true then 1 else 0)), (5, .int (nI i))] [] m Q := by
  intro q
  induction q with
  | zero =>
    intro i hi
    rw [show i = 17 by omega]
    exact K
  | succ q ih =>
    intro i hi
    have hs : sgF c (i + 1) = (sgF c i || decide (xsb_4.getD i 0 = nI c)) := rfl
    have nx : ∀ v : Int32, v = (if sgF c (i + 1) = true then 1 else 0) → yP (xg xs) (d + 3 + 1) 289 128 [(0, .ref 58), (1, .int (nI c)), (3, .int l3), (5, .int (nI i))] [.int v] m Q := by
      intro v hv
      refine w289_128 xs (d + 3) _ _ _ _ m _ ?_
      rw [hv, nI_1]
      exact ih (i + 1) (by omega)
    refine w289_99 xs (d + 3) _ _ _ _ m _ ⟨fun z => absurd z (nI_ge (b := 17) (by omega) (by decide)), fun _ => ⟨fun z => ?_, fun z => ?_⟩⟩
    · refine w289_123 xs (d + 3) _ _ _ m _ (nx 1 ?_)
      have y : sgF c i = true := y_ift z
      rw [hs, y]
      rfl
    · have y : ¬ sgF c i = true := y_iff z
      refine y_ci (c24_4 xs d m i (by omega)) (by omega) ?_
      refine ⟨fun x => nx 0 ?_, fun x => w289_123 xs (d + 3) _ _ _ m _ (nx 1 ?_)⟩
      · rw [hs, if_neg]
        simp only [Bool.or_eq_true, decide_eq_true_eq, not_or]
        exact ⟨y, x⟩
      · rw [hs, if_pos]
        simp only [Bool.or_eq_true, decide_eq_true_eq]
        exact Or.inr x
theorem c289 (xs : List Int32) (d : Nat) (m : yM) {f : Nat → Nat} {n : Nat} (h : TY m f n) (p : Nat) (h5 : m.1 58 5 = nI p) (hf0 : m.1 58 3 = 0) (hp : p < n) : yC (xg xs) (d + 4) 289 [.ref 58, .int (nI (f p))] m (rR m p (sgT f n p)) := by
  have h8 := h.2.1
  have hf := h.2.2
  have g := (hf p hp).1
  have tw : twN f n p ≤ 74 ∧ (twN f n p = 0 ∨ 70 ≤ twN f n p) := by unfold twN; (repeat' split) <;> omega
  have k92 : ∀ v : Int32, v = twI f n p → yP (xg xs) (d + 3 + 1) 289 92 [(0, .ref 58), (1, .int (nI (f p)))] [.int v] m (rR m p (sgT f n p)) := by
    intro v hv
    refine w289_92 xs (d + 3) _ _ m _ ?_
    refine c289L xs d m _ (f p) v ?_ 17 0 (by omega)
    refine w289_99 xs (d + 3) _ _ _ _ m _ ⟨fun _ => ⟨fun z => ⟨fun y => ?_, fun y => ?_⟩, fun z => ?_⟩, fun z => absurd (Int32.le_refl _) z⟩
    · have t0 : twN f n p = 0 := Classical.byContradiction (fun x => by
        rw [hv] at z
        unfold twI at z
        rw [if_neg x] at z
        exact absurd (show nI (twN f n p - 69) < 0 by rw [z]; decide) (nI_pos (by omega)))
      have y2 : ¬ sgF (f p) 17 = true := y_iff y
      rw [sgF_all _ g] at y2
      rw [h5]
      refine y_cv (c275 xs d m 1 p hf0) (by omega) (rR.bad (v := 1) ?_ rfl)
      unfold sgT
      rw [if_pos t0, if_neg (by simpa using y2)]
    · have t0 : twN f n p = 0 := Classical.byContradiction (fun x => by
        rw [hv] at z
        unfold twI at z
        rw [if_neg x] at z
        exact absurd (show nI (twN f n p - 69) < 0 by rw [z]; decide) (nI_pos (by omega)))
      have y2 : sgF (f p) 17 = true := y_ift y
      rw [sgF_all _ g] at y2
      rw [h5, nI_1]
      refine y_cv (c277 xs d m _ _ _) (by omega) (rR.ok (K := 4) (v := 128 + f p) (e := p + 1) ?_ (by decide) ?_)
      · unfold sgT
        rw [if_pos t0, if_pos (by simpa using y2)]
      · show tkn m 5 (nI (f p)) (nI (p + 1)) = tkn m 5 (nI (if 128 + f p < 128 then 128 + f p - 69 else 128 + f p - 128)) (nI (p + 1))
        rw [if_neg (by omega), show 128 + f p - 128 = f p by omega]
    · have t0 : ¬ twN f n p = 0 := fun x => z (by rw [hv]; unfold twI; rw [if_pos x])
      rw [h5, show nI p + (2 : Int32) = nI (p + 2) from nI_add p 2]
      refine y_cv (c277 xs d m _ _ _) (by omega) (rR.ok (K := 4) (v := twN f n p) (e := p + 2) ?_ (by decide) ?_)
      · unfold sgT
        rw [if_neg t0]
      · rw [hv]
        unfold twI
        rw [if_neg t0]
        show tkn m 5 (nI (twN f n p - 69)) (nI (p + 2)) = tkn m 5 (nI (if twN f n p < 128 then twN f n p - 69 else twN f n p - 128)) (nI (p + 2))
        rw [if_pos (by omega)]
  have i61 : rc f n (p + 1) = 61 ↔ p + 1 < n ∧ f (p + 1) = 61 := rc_eq (k := 61) (by decide) (by decide) (fun z => (hf _ z).1)
  have i46 : rc f n (p + 1) = 46 ↔ p + 1 < n ∧ f (p + 1) = 46 := rc_eq (k := 46) (by decide) (by decide) (fun z => (hf _ z).1)
  have i62 : rc f n (p + 1) = 62 ↔ p + 1 < n ∧ f (p + 1) = 62 := rc_eq (k := 62) (by decide) (by decide) (fun z => (hf _ z).1)
  have j58 : nI (f p) = 58 ↔ f p = 58 := nI_eq (b := 58) (by omega) (by decide)
  have j60 : nI (f p) = 60 ↔ f p = 60 := nI_eq (b := 60) (by omega) (by decide)
  have j62 : nI (f p) = 62 ↔ f p = 62 := nI_eq (b := 62) (by omega) (by decide)
  have j46 : nI (f p) = 46 ↔ f p = 46 := nI_eq (b := 46) (by omega) (by decide)
  have tw0 : ∀ (a b : Prop), True := fun _ _ => trivial
  have k91 : twN f n p = 0 → yP (xg xs) (d + 3 + 1) 289 91 [(0, .ref 58), (1, .int (nI (f p)))] [] m (rR m p (sgT f n p)) := fun z => w289_91 xs (d + 3) _ m _ (k92 _ (by unfold twI; rw [if_pos z]))
  have kv : ∀ k : Nat, k ≤ 5 → twN f n p = k + 69 → 1 ≤ k → yP (xg xs) (d + 3 + 1) 289 92 [(0, .ref 58), (1, .int (nI (f p)))] [.int (nI k)] m (rR m p (sgT f n p)) := fun k _ z _ => k92 _ (by unfold twI; rw [if_neg (by omega), z]; congr 1)
  have tN : twN f n p = if p + 1 < n ∧ f (p + 1) = 61 then (if f p = 58 then 70 else if f p = 60 then 72 else if f p = 62 then 73 else 0) else if f p = 46 ∧ (p + 1 < n ∧ f (p + 1) = 46) then 71 else if f p = 60 ∧ (p + 1 < n ∧ f (p + 1) = 62) then 74 else 0 := rfl
  have k75 : ¬ (f p = 58 ∧ (p + 1 < n ∧ f (p + 1) = 61)) → ¬ (f p = 46 ∧ (p + 1 < n ∧ f (p + 1) = 46)) → ¬ (f p = 60 ∧ (p + 1 < n ∧ f (p + 1) = 61)) → ¬ (f p = 62 ∧ (p + 1 < n ∧ f (p + 1) = 61)) → yP (xg xs) (d + 3 + 1) 289 75 [(0, .ref 58), (1, .int (nI (f p))), (2, .int (rc f n (p + 1)))] [] m (rR m p (sgT f n p)) := by
    intro a1 a2 a3 a4
    have e : twN f n p = if f p = 60 ∧ (p + 1 < n ∧ f (p + 1) = 62) then 74 else 0 := by
      rw [tN]
      by_cases z : p + 1 < n ∧ f (p + 1) = 61
      · rw [if_pos z, if_neg (fun y => a1 ⟨y, z⟩), if_neg (fun y => a3 ⟨y, z⟩), if_neg (fun y => a4 ⟨y, z⟩), if_neg (fun y => by omega)]
      · rw [if_neg z, if_neg a2]
    refine w289_75 xs (d + 3) _ _ m _ ?_
    rw [j60, i62]
    exact ⟨fun z => k91 (by rw [e, if_neg (fun y => z y.1)]), fun z => ⟨fun y => k91 (by rw [e, if_neg (fun x => y x.2)]), fun y => kv 5 (by decide) (by rw [e, if_pos ⟨z, y⟩]) (by decide)⟩⟩
  have k59 : ¬ (f p = 58 ∧ (p + 1 < n ∧ f (p + 1) = 61)) → ¬ (f p = 46 ∧ (p + 1 < n ∧ f (p + 1) = 46)) → ¬ (f p = 60 ∧ (p + 1 < n ∧ f (p + 1) = 61)) → yP (xg xs) (d + 3 + 1) 289 59 [(0, .ref 58), (1, .int (nI (f p))), (2, .int (rc f n (p + 1)))] [] m (rR m p (sgT f n p)) := by
    intro a1 a2 a3
    refine w289_59 xs (d + 3) _ _ m _ ?_
    rw [j62, i61]
    exact ⟨fun z => k75 a1 a2 a3 (fun y => z y.1), fun z => ⟨fun y => k75 a1 a2 a3 (fun x => y x.2), fun y => kv 4 (by decide) (by rw [tN, if_pos y, if_neg (by omega), if_neg (by omega), if_pos z]) (by decide)⟩⟩
  have k43 : ¬ (f p = 58 ∧ (p + 1 < n ∧ f (p + 1) = 61)) → ¬ (f p = 46 ∧ (p + 1 < n ∧ f (p + 1) = 46)) → yP (xg xs) (d + 3 + 1) 289 43 [(0, .ref 58), (1, .int (nI (f p))), (2, .int (rc f n (p + 1)))] [] m (rR m p (sgT f n p)) := by
    intro a1 a2
    refine w289_43 xs (d + 3) _ _ m _ ?_
    rw [j60, i61]
    exact ⟨fun z => k59 a1 a2 (fun y => z y.1), fun z => ⟨fun y => k59 a1 a2 (fun x => y x.2), fun y => kv 3 (by decide) (by rw [tN, if_pos y, if_neg (by omega), if_pos z]) (by decide)⟩⟩
  have k27 : ¬ (f p = 58 ∧ (p + 1 < n ∧ f (p + 1) = 61)) → yP (xg xs) (d + 3 + 1) 289 27 [(0, .ref 58), (1, .int (nI (f p))), (2, .int (rc f n (p + 1)))] [] m (rR m p (sgT f n p)) := by
    intro a1
    refine w289_27 xs (d + 3) _ _ m _ ?_
    rw [j46, i46]
    exact ⟨fun z => k43 a1 (fun y => z y.1), fun z => ⟨fun y => k43 a1 (fun x => y x.2), fun y => kv 2 (by decide) (by rw [tN, if_neg (by omega), if_pos ⟨z, y⟩]) (by decide)⟩⟩
  refine w289_0 xs (d + 3) _ m _ ?_
  rw [h5, nI_1]
  refine y_ci (c274x xs d m h (p + 1) (by omega)) (by omega) ?_
  rw [j58, i61]
  exact ⟨fun z => k27 (fun y => z y.1), fun z => ⟨fun y => k27 (fun x => y x.2), fun y => kv 1 (by decide) (by rw [tN, if_pos y, if_pos z]) (by decide)⟩⟩
