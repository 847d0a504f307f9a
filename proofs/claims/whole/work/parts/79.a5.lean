/-! MEASURE: which instructions a unit has -/
theorem iOps.j {o a : Int32} (h : o = 0 ∨ o = 1 ∨ o = 2 ∨ o = 7 ∨ o = 8) : iOps [j1 o a] := by
  rcases h with h | h | h | h | h
  · exact iOps.i 0 (by omega) h
  · exact iOps.i 1 (by omega) h
  · exact iOps.i 2 (by omega) h
  · exact iOps.i 7 (by omega) h
  · exact iOps.i 8 (by omega) h
theorem cnC_o (σ : RS) (n : Nat) : iOps (cnC σ n) := by
  unfold cnC
  refine iOps.app ?_ ((iOps.j (by decide)).app (iOps.app ?_ (iOps.app ?_ ((iOps.j (by decide)).app ?_))))
  · split
    · exact iOps.j (by decide)
    · exact iOps.nil
  · split
    · exact iOps.j (by decide)
    · exact iOps.nil
  · split
    · exact iOps.nil
    · exact iOps.j (by decide)
  · split
    · exact iOps.nil
    · exact iOps.app (D := [_]) (iOps.j (by decide)) (iOps.app (D := [_]) (iOps.j (by decide)) (iOps.j (by decide)))
theorem fdC_o (F : List ND) (R : List Nat) (pw : Int32) (row l : Nat) : iOps [fdC F R pw row l] := by
  unfold fdC
  split
  · exact iOps.j (by decide)
  · exact iOps.j (by decide)
theorem coC_o (F : List ND) (σ : RS) (R : List Nat) (pw : Int32) (cols row n : Nat) : iOps (coC F σ R pw cols row n) := by
  unfold coC
  refine iOps.app ?_ ((fdC_o F R pw row cols).app (iOps.app ?_ (iOps.app ?_ (iOps.j (by decide)))))
  · split
    · exact iOps.nil
    · exact iOps.j (by decide)
  · split
    · exact iOps.j (by decide)
    · exact iOps.nil
  · split
    · exact iOps.nil
    · exact iOps.j (by decide)
theorem gpR_o (F : List ND) (σ : RS) (R : List Nat) (pw : Int32) (l a : Nat) : ∀ k row fed, iOps (gpR F σ R pw l a k row fed)
  | 0, row, fed => by
    unfold gpR
    split
    · exact iOps.j (by decide)
    · exact iOps.nil
  | k + 1, row, fed => by
    unfold gpR
    split
    · split
      · exact gpR_o F σ R pw l a k (row + 1) fed
      · refine (fdC_o F R pw row l).app (iOps.app ?_ (iOps.app ?_ (gpR_o F σ R pw l a k (row + 1) (fed + 1))))
        · split
          · exact cnC_o σ _
          · exact iOps.nil
        · split
          · exact iOps.nil
          · exact iOps.j (by decide)
    · split
      · exact iOps.j (by decide)
      · exact iOps.nil
theorem gpL_o (F : List ND) (σ : RS) (R : List Nat) (pw : Int32) (cols l : Nat) : ∀ k row, iOps (gpL F σ R pw cols l k row)
  | 0, row => iOps.nil
  | k + 1, row => by
    unfold gpL
    refine iOps.app ?_ (gpL_o F σ R pw cols l k (row + 1))
    split
    · exact (gpR_o F σ R pw l row _ _ _).app (iOps.j (by decide))
    · exact iOps.nil
theorem lnC_o (F : List ND) (σ : RS) (R : List Nat) (pw : Int32) (cols : Nat) : ∀ k l, iOps (lnC F σ R pw cols k l)
  | 0, l => iOps.nil
  | k + 1, l => (gpL_o F σ R pw cols l _ _).app (lnC_o F σ R pw cols k (l + 1))
theorem coL_o (F : List ND) (σ : RS) (R : List Nat) (pw : Int32) (cols : Nat) : ∀ k row, iOps (coL F σ R pw cols k row)
  | 0, row => iOps.nil
  | k + 1, row => by
    unfold coL
    refine iOps.app ?_ (coL_o F σ R pw cols k (row + 1))
    split
    · exact coC_o F σ R pw cols row _
    · exact iOps.nil
theorem laC_o (F : List ND) (σ : RS) (pw : Int32) : ∀ L, iOps (laC F σ pw L)
  | [] => iOps.nil
  | n :: L => ((lnC_o F σ _ pw _ _ _).app (coL_o F σ _ pw _ _ _)).app (laC_o F σ pw L)
theorem bgV_o (σ : RS) : ∀ k v, iOps (bgV σ k v)
  | 0, v => iOps.nil
  | k + 1, v => by
    unfold bgV
    refine iOps.app ?_ (bgV_o σ k (v + 1))
    split
    · exact iOps.app (D := [_]) (iOps.j (by decide)) (iOps.j (by decide))
    · exact iOps.nil
theorem bgC_o (σ : RS) (b : Nat) : iOps (bgC σ b) := by
  unfold bgC
  split
  · exact iOps.app (iOps.app (D := [_]) (iOps.j (by decide)) (iOps.j (by decide))) (bgV_o σ _ _)
  · exact iOps.nil
theorem unC_o (F : List ND) (σ : RS) (b : Nat) : iOps (unC F σ 186 b) := by
  unfold unC
  refine (bgC_o σ b).app (seq_o (fun c p => ?_) _ _)
  unfold unT
  split
  · exact wB_o F σ 186 0 c p
  split
  · exact laC_o F σ _ _
  · exact iOps.nil
