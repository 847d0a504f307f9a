/-! RULES: the look, the path of the class -/
theorem PH.par {F : List ND} {A : List Nat} {m : yM} (h : PH F A m) (h0 : 0 < F.length) : fPar A < F.length := by
  unfold fPar
  by_cases y : A.length - 1 < A.length
  · exact (h.2.2 _ _ (getD_some y)).2
  · rw [List.getD_eq_getElem?_getD, List.getElem?_eq_none (by omega)]
    exact h0
theorem PH.par2 {F : List ND} {A : List Nat} {m : yM} (h : PH F A m) (h0 : 0 < F.length) : fPar2 A < F.length := by
  unfold fPar2
  split
  · exact (h.2.2 _ _ (getD_some (by omega))).2
  · exact h0
theorem c112 (xs : List Int32) (d : Nat) {F : List ND} {σ : RS} {A : List Nat} {m : yM} (h : CR F σ m) (hA : PH F A m) {U : Nat → Bool} (hU : UR U m) {n : Nat} (hp : pre F A σ n) : yC (xg xs) (d + 6) 112 [.ref 31, .int (nI n)] m (fun r m' => LU F A m (nU σ U n) (lk F A σ U n) r m' ∧ (σ.2.2.1 n = 0 → ∀ σ', lk F A σ U n = .inl σ' → BA σ' m')) := by
  have hf := h.f
  obtain ⟨hn, h0, pX, pS, p1, p5, p6, p7, p9, p10, p25, p28⟩ := hp
  have t0 := h.t hn
  have e : (nI n).toNatClampNeg = n := nI_clamp (by omega)
  have x1 : x_in (nI n) 16401 = true := x_in_nI (by omega) (by decide)
  have hF : 0 < F.length := by omega
  have hpr := hA.par hF
  have hpr2 := hA.par2 hF
  refine w112_0 xs (d + 5) _ m _ ?_
  rw [e, t0.1]
  unfold lk
  -- an answer that leaves the places used alone
  have up : ∀ {R : RS ⊕ Int32} {j : Nat} {as : List Value}, ¬ σ.2.2.1 n = 0 → ¬ σ.2.2.1 n = 7 → yC (xg xs) (d + 5) j as m (LQ F A m R) → yC (xg xs) (d + 5) j as m (fun r m1 => ∃ u, r = some (Value.int u) ∧ (LU F A m (nU σ U n) R (some (.int u)) m1 ∧ (σ.2.2.1 n = 0 → ∀ σ', R = .inl σ' → BA σ' m1))) := by
    intro R j as n0 n7 q
    refine y_lq (P := fun r m1 => LU F A m (nU σ U n) R r m1 ∧ (σ.2.2.1 n = 0 → ∀ σ', R = .inl σ' → BA σ' m1)) q (Nat.le_refl _) (fun r m' q => ⟨?_, fun z => absurd z n0⟩)
    rw [show nU σ U n = U by unfold nU; rw [if_neg n7]]
    exact q.u hU
  have st : ∀ {R : RS ⊕ Int32} {r : Option Value}, ¬ σ.2.2.1 n = 0 → ¬ σ.2.2.1 n = 7 → LQ F A m R r m → LU F A m (nU σ U n) R r m ∧ (σ.2.2.1 n = 0 → ∀ σ', R = .inl σ' → BA σ' m) := by
    intro R r n0 n7 q
    refine ⟨?_, fun z => absurd z n0⟩
    rw [show nU σ U n = U by unfold nU; rw [if_neg n7]]
    exact q.u hU
  generalize hK : σ.2.2.1 n = K at *
  refine ⟨x1, fun u => ?_, fun u => ?_, fun u => ?_, fun u => ?_, fun u => ?_, fun u => ?_, fun u => ?_, fun u => ?_, fun u => ?_, fun u => ?_, fun u => ?_, fun u => ?_, fun u => ?_, fun u => ?_, fun v0 v1 v2 v3 v4 v5 v6 v7 v9 v10 v23 v25 v28 v29 => ⟨x1, fun w => ?_, fun w => ?_⟩⟩
  · subst u
    rw [if_pos rfl, show nU σ U n = U by unfold nU; rw [hK, if_neg (by decide)]]
    refine yC.mono (by omega) (fun r m' q => ?_) (c113 xs d h hA)
    obtain ⟨u, e⟩ := q.1.out
    subst e
    exact ⟨u, rfl, q.1.u hU, fun _ => q.2⟩
  · subst u
    rw [if_neg (by decide), if_pos (by decide)]
    exact up (by decide) (by decide) (yC.mono (by omega) (fun _ _ q => q) (c117 xs d h hA (p1 (by decide)) (h0 (by decide))))
  · subst u
    rw [if_neg (by decide), if_pos (by decide)]
    exact up (by decide) (by decide) (yC.mono (by omega) (fun _ _ q => q) (c117 xs d h hA (p1 (by decide)) (h0 (by decide))))
  · subst u
    rw [if_neg (by decide), if_pos (by decide)]
    exact up (by decide) (by decide) (yC.mono (by omega) (fun _ _ q => q) (c117 xs d h hA (p1 (by decide)) (h0 (by decide))))
  · subst u
    rw [if_neg (by decide), if_neg (by decide), if_pos rfl]
    exact up (by decide) (by decide) (yC.mono (by omega) (fun _ _ q => q) (c122 xs d h hA hn))
  · subst u
    rw [if_neg (by decide), if_neg (by decide), if_neg (by decide), if_pos rfl]
    obtain ⟨q1, q2, q3, q4⟩ := p5 rfl
    exact up (by decide) (by decide) (yC.mono (by omega) (fun _ _ q => q) (c123 xs d h hA (h0 (by decide)) hn hpr q1 q2 q3 q4))
  · subst u
    rw [if_neg (by decide), if_neg (by decide), if_neg (by decide), if_neg (by decide), if_pos rfl]
    obtain ⟨⟨j, j1, j2⟩, q2, q3⟩ := p6 rfl
    exact up (by decide) (by decide) (yC.mono (by omega) (fun _ _ q => q) (c132 xs d h hA (h0 (by decide)) q2 q3 hn hpr j1 j2))
  · subst u
    rw [if_neg (by decide), if_neg (by decide), if_neg (by decide), if_neg (by decide), if_neg (by decide), if_pos rfl]
    obtain ⟨q1, w, k, w1, k1, k2, hv⟩ := p7 rfl
    have ev : (σ.2.2.2.1 n).toNatClampNeg = 256 * w + k := by rw [hv]; exact nI_clamp (by omega)
    have ew : (256 * w + k) / 256 = w := by omega
    have ek : (256 * w + k) % 256 = k := by omega
    rw [show nU σ U n = (fun c => U c || decide (c = plC w k)) by unfold nU; rw [hK, if_pos rfl, ev, ew, ek], ev, ew, ek]
    exact y_lu (P := fun r m1 => LU F A m (fun c => U c || decide (c = plC w k)) (lkPlc σ A U n w k) r m1 ∧ ((7 : Int32) = 0 → ∀ σ', lkPlc σ A U n w k = .inl σ' → BA σ' m1)) (c140 xs d h hA hU hn q1 w1 k1 k2 hv) (by omega) (fun r m' q => ⟨q, fun z => absurd z (by decide)⟩)
  · subst u
    rw [if_neg (by decide), if_neg (by decide), if_neg (by decide), if_neg (by decide), if_neg (by decide), if_neg (by decide), if_pos rfl]
    exact up (by decide) (by decide) (yC.mono (by omega) (fun _ _ q => q) (c141 xs d h hA (p9 rfl)))
  · subst u
    rw [if_neg (by decide), if_neg (by decide), if_neg (by decide), if_neg (by decide), if_neg (by decide), if_neg (by decide), if_neg (by decide), if_pos rfl]
    obtain ⟨j, j1, j2⟩ := p10 rfl
    exact up (by decide) (by decide) (yC.mono (by omega) (fun _ _ q => q) (c142 xs d h hA (h0 (by decide)) hn j1 j2))
  · subst u
    rw [if_neg (by decide), if_neg (by decide), if_neg (by decide), if_neg (by decide), if_neg (by decide), if_neg (by decide), if_neg (by decide), if_neg (by decide), if_pos rfl]
    exact up (by decide) (by decide) (yC.mono (by omega) (fun _ _ q => q) (c144 xs d h hA hn))
  · subst u
    rw [if_neg (by decide), if_neg (by decide), if_neg (by decide), if_neg (by decide), if_neg (by decide), if_neg (by decide), if_neg (by decide), if_neg (by decide), if_neg (by decide), if_pos rfl]
    have n1 := p25 rfl
    have e1 : (nI (n + 1)).toNatClampNeg = n + 1 := nI_clamp (by omega)
    rw [nI_1, e1, (h.t n1).2.2.2.1]
    refine ⟨x_in_nI (by omega) (by decide), fun w => ?_, fun w => ?_⟩
    · rw [if_neg w]; exact st (by decide) (by decide) (LQ.no m (by decide))
    · rw [if_pos w]; exact st (by decide) (by decide) (LQ.ok h hA)
  · subst u
    rw [if_neg (by decide), if_neg (by decide), if_neg (by decide), if_neg (by decide), if_neg (by decide), if_neg (by decide), if_neg (by decide), if_neg (by decide), if_neg (by decide), if_neg (by decide), if_pos rfl]
    obtain ⟨q1, v, v1, v2⟩ := p28 rfl
    exact up (by decide) (by decide) (yC.mono (by omega) (fun _ _ q => q) (c145 xs d h hA q1 hpr v1 v2))
  · subst u
    rw [if_neg (by decide), if_neg (by decide), if_neg (by decide), if_neg (by decide), if_neg (by decide), if_neg (by decide), if_neg (by decide), if_neg (by decide), if_neg (by decide), if_neg (by decide), if_neg (by decide), if_pos rfl]
    exact up (by decide) (by decide) (yC.mono (by omega) (fun _ _ q => q) (c147 xs d h hA hpr hpr2))
  · rw [if_neg v0, if_neg (fun y => y.elim v1 (fun y => y.elim v2 v3)), if_neg v4, if_neg v5, if_neg v6, if_neg v7, if_neg v9, if_neg v10, if_neg v23, if_neg v25, if_neg v28, if_neg v29, if_pos w]
    exact up v0 v7 (c162 xs d h hA (h0 v0) hn pX)
  · rw [if_neg v0, if_neg (fun y => y.elim v1 (fun y => y.elim v2 v3)), if_neg v4, if_neg v5, if_neg v6, if_neg v7, if_neg v9, if_neg v10, if_neg v23, if_neg v25, if_neg v28, if_neg v29, if_neg w]
    exact up v0 v7 (c148 xs d h hA (h0 v0) hn pS)
