/-! THE WRITER: all units of the class -/
def P18 (F : List ND) (s : SU) : Prop := ∀ b, b < s.1.1.length → (s.1.1.getD b dBK).2.1 < F.length ∧ (kK F (s.1.1.getD b dBK).2.1 = 1 ∨ kK F (s.1.1.getD b dBK).2.1 = 2 ∨ kK F (s.1.1.getD b dBK).2.1 = 3)
theorem P18.b {m0 : yM} {T : Nat} {F : List ND} {N : Nat} {A : List Nat} {n : Nat} {s : SU} {σ : RS} (hp : PA m0 T F N A n) (h1 : P1 F A n s) (h : P18 F s) (e : jb s n = .inl σ) : P18 F (σ, s.2) := by
  have hn := hp.lt.1
  have k37 := hp.1.k37
  have kn := (h1.1 n hn (Or.inl (Nat.le_refl _))).1
  unfold jb at e
  by_cases q : bkN (s.1.2.2.1 n)
  · rw [if_pos q] at e
    have kb := (ch37e _ k37).mp (by rw [← kn]; exact q)
    unfold lkBeg at e
    split at e
    · cases e
    split at e
    · cases e
    · have e' := inl_e e
      obtain ⟨y1, y2, y3, y4, y5, y6, y7⟩ := beg_y s.1 n (s.1.2.2.1 n) (s.1.2.2.2.1 n)
      rw [← e'] at y1 y3 y7
      intro b hb
      have hb : b < σ.1.length := hb
      show (σ.1.getD b dBK).2.1 < F.length ∧ _
      by_cases w : b < s.1.1.length
      · have := h b w
        show (σ.1.getD b dBK).2.1 < F.length ∧ (kK F (σ.1.getD b dBK).2.1 = 1 ∨ kK F (σ.1.getD b dBK).2.1 = 2 ∨ kK F (σ.1.getD b dBK).2.1 = 3)
        rw [y7 b w]; exact this
      · have eb : b = σ.1.length - 1 := by omega
        have en : (σ.1.getD b dBK).2.1 = n := by rw [eb]; exact y3
        show (σ.1.getD b dBK).2.1 < F.length ∧ (kK F (σ.1.getD b dBK).2.1 = 1 ∨ kK F (σ.1.getD b dBK).2.1 = 2 ∨ kK F (σ.1.getD b dBK).2.1 = 3)
        rw [en]
        exact ⟨hn, by omega⟩
  · rw [if_neg q] at e
    rw [inl_e e]; exact h
theorem P18.l {m0 : yM} {T : Nat} {F : List ND} {N : Nat} {A : List Nat} {n : Nat} {s : SU} {σ' : RS} (hp : PA m0 T F N A n) (h1 : P1 F (A ++ [n]) (n + szF F n) s) (h : P18 F s) (e : lk F A s.1 s.2 n = .inl σ') : P18 F (σ', nU s.1 s.2 n) := by
  have hn := hp.lt.1
  have k37 := hp.1.k37
  have nA : n ∈ A ++ [n] := List.mem_append_right _ List.mem_cons_self
  obtain ⟨kn, vn, tn⟩ := h1.1 n hn (Or.inr nA)
  obtain ⟨-, -, -, -, by1, by2⟩ := lk_ef e (fun z => by
    rw [kn] at z
    exact (h1.2.2.2.2 n nA ((ch37e _ k37).mp z)).2.1)
  intro b hb
  have hb : b < σ'.1.length := hb
  show (σ'.1.getD b dBK).2.1 < F.length ∧ (kK F (σ'.1.getD b dBK).2.1 = 1 ∨ kK F (σ'.1.getD b dBK).2.1 = 2 ∨ kK F (σ'.1.getD b dBK).2.1 = 3)
  rw [(by2 b).2.1]
  exact h b (by omega)
theorem jn_18 {m0 : yM} {T N : Nat} {F : List ND} (hF : HF m0 T F) (hW : TW m0 T F N 0) {s : SU} (e : jn F N [] 0 (sg0 F) = .inl s) : P18 F s := by
  have := jn_ind (P := fun A i s => PAll F A i s ∧ P18 F s) (m0 := m0) (T := T) (F := F) (fun N A n s σ hp h e => ⟨PAll.b hF hp h.1 e, P18.b hp h.1.1.1 h.2 e⟩) (fun N A n s σ' hp h e => ⟨PAll.l hF hp h.1 e, P18.l hp h.1.1.1 h.2 e⟩) N [] 0 (sg0 F) ⟨hW, rfl, fun p hp => by cases hp⟩ ⟨PAll.z (fun j hj => hF.1.k hj), fun b hb => absurd hb (Nat.not_lt_zero _)⟩ s e
  exact this.2
/-- all that is known, for the writers -/
def HZ (m0 : yM) (T : Nat) (F : List ND) (s : SU) : Prop := HS m0 T F s ∧ P16 F [] F.length ∧ P17 F [] F.length ∧ P18 F s ∧ TW m0 T F 187 0 ∧ szF F 0 = F.length
theorem HZ.w {m0 : yM} {T : Nat} {F : List ND} {s : SU} (h : HZ m0 T F s) {j : Nat} (hj : j < F.length) : TW m0 T F 187 j := by
  obtain ⟨M, hM1, hM2⟩ := TW.all 187 0 h.2.2.2.2.1 j (by omega) (by rw [h.2.2.2.2.2]; omega)
  exact hM2.le hM1
theorem unC_0 {m0 : yM} {T : Nat} {F : List ND} {s : SU} (h : HZ m0 T F s) {b : Nat} (hb : b < s.1.1.length) : mk0 (unC F s.1 186 b) := by
  have hz := h
  obtain ⟨hS, h16, h17, h18, -⟩ := h
  obtain ⟨nl, kb⟩ := h18 b hb
  have hW := HZ.w hz nl
  unfold unC
  refine (bgC_0 s.1 b).app (seq_0 _ _ (fun c hc p => ?_))
  have hWc := hW.2.2.2.2.2.2 c hc
  unfold unT
  split
  · rename_i k11
    exact wB_0 hS 186 0 c p hWc (by omega) (gX_of hS.1.1 h17 hW kb hc)
  split
  · exact laC_0 F s.1 _ _
  · exact mk0.nil
theorem allC_0 {m0 : yM} {T : Nat} {F : List ND} {s : SU} (h : HZ m0 T F s) : ∀ b, b ≤ s.1.1.length → mk0 (allC F s.1 186 b)
  | 0, _ => mk0.nil
  | b + 1, hb => (allC_0 h b (by omega)).app (unC_0 h (by omega))
theorem allC_le (F : List ND) (σ : RS) (N : Nat) : ∀ k b, (allC F σ N b).length ≤ (allC F σ N (b + k)).length
  | 0, b => Nat.le_refl _
  | k + 1, b => by
    show _ ≤ (allC F σ N (b + k) ++ unC F σ N (b + k)).length
    rw [List.length_append]
    have := allC_le F σ N k b
    omega
/-- the class holds the code of all units -/
def CU (F : List ND) (σ : RS) (m : yM) : Prop := CO (allC F σ 186 σ.1.length) m ∧ m.1 35 7 = nI σ.1.length ∧ ∀ b, b < σ.1.length → m.1 40 b = nI (allC F σ 186 b).length
theorem c188w (xs : List Int32) (d : Nat) {m0 : yM} {T : Nat} {F : List ND} {s : SU} (hz : HZ m0 T F s) (h16 : s.1.1.length ≤ 16) (hB : (allC F s.1 186 s.1.1.length).length + 16 < 2 ^ 30) {m : yM} {Q : Option Value → yM → Prop} (hcr : CR F s.1 m) (hk : ∀ m', CU F s.1 m' → GVK m m' → ((allC F s.1 186 s.1.1.length).length ≤ 3000 → yP (xg xs) (d + 568) 188 72 [(0, .ref 0), (1, .int 0)] [] m' Q) ∧ (3000 < (allC F s.1 186 s.1.1.length).length → Q (some (.int 50)) m')) : ∀ (k b : Nat) (m1 : yM), b + k = s.1.1.length → CO (allC F s.1 186 b) m1 → m1.1 35 7 = nI b → (∀ i, i < b → m1.1 40 i = nI (allC F s.1 186 i).length) → GVK m m1 → yP (xg xs) (d + 568) 188 29 [(0, .ref 0), (1, .int (nI b))] [] m1 Q := by
  intro k
  induction k with
  | zero =>
    intro b m1 hb c1 u1 o1 e1
    have hb : b = s.1.1.length := hb
    subst hb
    obtain ⟨k1, k2⟩ := hk m1 ⟨c1, u1, o1⟩ e1
    refine w188_29 xs (d + 567) _ m1 _ ?_
    rw [(hcr.gvk e1).nB.1, c1.1]
    refine ⟨fun _ => ⟨fun z => k1 ((nI_leI (b := 3000) (by omega) (by omega)).mp z), fun z => k2 ?_⟩, fun z => absurd (nI_le (Nat.le_refl _) (by omega)) z⟩
    rcases Nat.lt_or_ge 3000 (allC F s.1 186 s.1.1.length).length with w | w
    · exact w
    · exact absurd (nI_le (b := 3000) w (by omega)) z
  | succ k ih =>
    intro b m1 hb c1 u1 o1 e1
    have hb' : b < s.1.1.length := by omega
    have nl := (hz.2.2.2.1 b hb').1
    have le := allC_le F s.1 186 k (b + 1)
    rw [show b + 1 + k = s.1.1.length by omega] at le
    have es : allC F s.1 186 (b + 1) = allC F s.1 186 b ++ unC F s.1 186 b := rfl
    rw [es, List.length_append] at le
    refine w188_29 xs (d + 567) _ m1 _ ?_
    rw [(hcr.gvk e1).nB.1]
    refine ⟨fun z => ?_, fun _ => yC.mono (by omega) (fun r m2 q => ⟨q.1, ?_⟩) (c190 xs d hz.1 hz.2.1 (N := 186) hb' (HZ.w hz nl) (hcr.gvk e1) c1 (allC_0 hz b (by omega)) u1 (by omega) (by omega))⟩
    · have := (nI_leI (by omega) (by omega)).mp z
      omega
    · obtain ⟨-, q1, q2, q3, q4, q5⟩ := q
      rw [nI_1]
      refine ih (b + 1) m2 (by omega) q1 q2 (fun i hi => ?_) (e1.tr q5)
      by_cases w : i = b
      · rw [w]; exact q3
      · rw [q4 i w]; exact o1 i (by omega)
