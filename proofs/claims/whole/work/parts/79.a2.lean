/-! MEASURE: a unit's jumps lead on -/
theorem cnC_z (σ : RS) (n : Nat) : pz (cnC σ n) := by
  unfold cnC
  refine pz.app ?_ ((pz.i1 (by decide)).app (pz.app ?_ (pz.app ?_ ((pz.i1 (by decide)).app ?_))))
  · split
    · exact pz.i1 (by decide)
    · exact pz.nil
  · split
    · exact pz.i1 (by decide)
    · exact pz.nil
  · split
    · exact pz.nil
    · exact pz.i1 (by decide)
  · split
    · exact pz.nil
    · exact pz.app (D := [_]) (pz.i1 (by decide)) (pz.app (D := [_]) (pz.i1 (by decide)) (pz.i1 (by decide)))
theorem fdC_z (F : List ND) (R : List Nat) (pw : Int32) (row l : Nat) : pz [fdC F R pw row l] := by
  unfold fdC
  split
  · exact pz.i1 (by decide)
  · exact pz.i1 (by decide)
theorem coC_z (F : List ND) (σ : RS) (R : List Nat) (pw : Int32) (cols row n : Nat) : pz (coC F σ R pw cols row n) := by
  unfold coC
  refine pz.app ?_ ((fdC_z F R pw row cols).app (pz.app ?_ (pz.app ?_ (pz.i1 (by decide)))))
  · split
    · exact pz.nil
    · exact pz.i1 (by decide)
  · split
    · exact pz.i1 (by decide)
    · exact pz.nil
  · split
    · exact pz.nil
    · exact pz.i1 (by decide)
theorem gpR_z (F : List ND) (σ : RS) (R : List Nat) (pw : Int32) (l a : Nat) : ∀ k row fed, pz (gpR F σ R pw l a k row fed)
  | 0, row, fed => by
    unfold gpR
    split
    · exact pz.i1 (by decide)
    · exact pz.nil
  | k + 1, row, fed => by
    unfold gpR
    split
    · split
      · exact gpR_z F σ R pw l a k (row + 1) fed
      · refine (fdC_z F R pw row l).app (pz.app ?_ (pz.app ?_ (gpR_z F σ R pw l a k (row + 1) (fed + 1))))
        · split
          · exact cnC_z σ _
          · exact pz.nil
        · split
          · exact pz.nil
          · exact pz.i1 (by decide)
    · split
      · exact pz.i1 (by decide)
      · exact pz.nil
theorem gpL_z (F : List ND) (σ : RS) (R : List Nat) (pw : Int32) (cols l : Nat) : ∀ k row, pz (gpL F σ R pw cols l k row)
  | 0, row => pz.nil
  | k + 1, row => by
    unfold gpL
    refine pz.app ?_ (gpL_z F σ R pw cols l k (row + 1))
    split
    · exact (gpR_z F σ R pw l row _ _ _).app (pz.i1 (by decide))
    · exact pz.nil
theorem lnC_z (F : List ND) (σ : RS) (R : List Nat) (pw : Int32) (cols : Nat) : ∀ k l, pz (lnC F σ R pw cols k l)
  | 0, l => pz.nil
  | k + 1, l => (gpL_z F σ R pw cols l _ _).app (lnC_z F σ R pw cols k (l + 1))
theorem coL_z (F : List ND) (σ : RS) (R : List Nat) (pw : Int32) (cols : Nat) : ∀ k row, pz (coL F σ R pw cols k row)
  | 0, row => pz.nil
  | k + 1, row => by
    unfold coL
    refine pz.app ?_ (coL_z F σ R pw cols k (row + 1))
    split
    · exact coC_z F σ R pw cols row _
    · exact pz.nil
theorem laC_z (F : List ND) (σ : RS) (pw : Int32) : ∀ L, pz (laC F σ pw L)
  | [] => pz.nil
  | n :: L => ((lnC_z F σ _ pw _ _ _).app (coL_z F σ _ pw _ _ _)).app (laC_z F σ pw L)
theorem bgV_z (σ : RS) : ∀ k v, pz (bgV σ k v)
  | 0, v => pz.nil
  | k + 1, v => by
    unfold bgV
    refine pz.app ?_ (bgV_z σ k (v + 1))
    split
    · exact pz.app (D := [_]) (pz.i1 (by decide)) (pz.i1 (by decide))
    · exact pz.nil
theorem bgC_z (σ : RS) (b : Nat) : pz (bgC σ b) := by
  unfold bgC
  split
  · exact pz.app (pz.app (D := [_]) (pz.i1 (by decide)) (pz.i1 (by decide))) (bgV_z σ _ _)
  · exact pz.nil
/-- a unit's jumps lead on, and not out of it -/
theorem unC_f {m0 : yM} {T : Nat} {J : JV} {s : SU} (hz : HZ m0 T J.2.2.1 s) {b : Nat} (hb : b < s.1.1.length) : FW (unC J.2.2.1 s.1 186 b).length (unC J.2.2.1 s.1 186 b) 0 := by
  have hS := hz.1
  obtain ⟨nl, kb⟩ := hz.2.2.2.1 b hb
  have hW := HZ.w hz nl
  unfold unC
  refine ((bgC_z s.1 b).f (bgC_0 s.1 b)).app ?_
  rw [Nat.zero_add]
  refine seq_f _ _ _ (fun c hc p => ?_) (by rw [List.length_append]; exact Nat.le_refl _)
  have hWc := hW.2.2.2.2.2.2 c hc
  by_cases k11 : kK J.2.2.1 c = 11
  · have e : ∀ p, unT J.2.2.1 s.1 186 ((s.1.1.getD b dBK).2.2.2.1 - 156) c p = wB J.2.2.1 s.1 186 0 c p := fun p => by unfold unT; rw [if_pos k11]
    rw [e]
    exact wB_f hS 186 0 c p hWc
  · by_cases k22 : kK J.2.2.1 c = 22
    · have e : ∀ p, unT J.2.2.1 s.1 186 ((s.1.1.getD b dBK).2.2.2.1 - 156) c p = laC J.2.2.1 s.1 ((s.1.1.getD b dBK).2.2.2.1 - 156) (kids J.2.2.1 c) := fun p => by unfold unT; rw [if_neg k11, if_pos k22]
      rw [e]
      exact (laC_z J.2.2.1 s.1 _ _).f (laC_0 J.2.2.1 s.1 _ _)
    · have e : ∀ p, unT J.2.2.1 s.1 186 ((s.1.1.getD b dBK).2.2.2.1 - 156) c p = [] := fun p => by unfold unT; rw [if_neg k11, if_neg k22]
      rw [e]
      exact FW.nil
/-- the pass that finds what can be come to; what lies on the stack behind i instructions -/
def goB (o : Int32) : Bool := decide (¬ o = 10 ∧ ¬ o = 14 ∧ ¬ o = 18)
def tgI (x : IT) : Option Nat := if x.1 = 10 ∨ x.1 = 11 then some x.2.1.toNatClampNeg else if x.1 = 13 then some x.2.2.1.toNatClampNeg else none
def rchS (x : IT) (i : Nat) (r : Nat → Bool) : Nat → Bool := if r i = true then (fun k => r k || (goB x.1 && decide (k = i + 1)) || decide (tgI x = some k)) else r
def rchP (D : List IT) : Nat → Nat → Bool
  | 0 => fun k => decide (k = 0)
  | i + 1 => rchS (D.getD i dIT) i (rchP D i)
def layP (D : List IT) : Nat → Int32
  | 0 => 0
  | i + 1 => layP D i + xar_6.getD ((D.getD i dIT).1).toNatClampNeg 0
/-- an instruction that leads on keeps what is before it -/
theorem rchP_st {P : Nat} {D : List IT} (h : FW P D 0) (h0 : mk0 D) (hP : P < 2 ^ 30) {j : Nat} : ∀ (k i : Nat), i + k ≤ D.length → j ≤ i → rchP D (i + k) j = rchP D i j := by
  intro k
  induction k with
  | zero => intro i _ _; rfl
  | succ k ih =>
    intro i hi hj
    rw [← ih i (by omega) hj]
    show rchS (D.getD (i + k) dIT) (i + k) (rchP D (i + k)) j = rchP D (i + k) j
    have hx : D[i + k]? = some (D.getD (i + k) dIT) := getD_some (by omega)
    obtain ⟨a, b, c⟩ := h _ _ hx
    have m0 := h0 _ (List.mem_of_getElem? hx)
    generalize D.getD (i + k) dIT = x at *
    unfold rchS
    split
    · have n1 : decide (j = i + k + 1) = false := decide_eq_false (by omega)
      have n2 : decide (tgI x = some j) = false := by
        apply decide_eq_false
        intro e
        unfold tgI at e
        split at e
        · rename_i q
          obtain ⟨t, t1, t2, t3⟩ := a m0 q
          rw [t3, nI_clamp (by omega)] at e
          have := Option.some.inj e
          omega
        · split at e
          · rename_i q
            obtain ⟨t, t1, t2, t3⟩ := b q
            rw [t3, nI_clamp (by omega)] at e
            have := Option.some.inj e
            omega
          · cases e
      show (rchP D (i + k) j || (goB x.1 && decide (j = i + k + 1)) || decide (tgI x = some j)) = rchP D (i + k) j
      rw [n1, n2, Bool.and_false, Bool.or_false, Bool.or_false]
    · rfl
