/-! THE RULES' INVARIANTS: variables that statements name, inputs that are told -/
theorem tile_ne {F : List ND} {e : Nat} : ∀ (L : List Nat) (i : Nat), tile F L i e → ∀ a b, a ∈ L → b ∈ L → a < b → a + szF F a ≤ b
  | [], i, _, a, b, ha, _ => by cases ha
  | c :: L, i, ht, a, b, ha, hb => by
    obtain ⟨rfl, ht⟩ := ht
    intro ab
    rcases List.mem_cons.mp ha with ea | ha
    · rcases List.mem_cons.mp hb with eb | hb
      · omega
      · have := (tile.mem ht b hb).1
        rw [ea]
        exact this
    · rcases List.mem_cons.mp hb with eb | hb
      · have := (tile.mem ht a ha).1
        omega
      · exact tile_ne L _ ht a b ha hb ab
theorem TW.til {m0 : yM} {T : Nat} {F : List ND} {N n : Nat} (h : TW m0 T F N n) : tile F (kids F n) (n + 1) (n + szF F n) := by
  cases N with
  | zero => exact absurd h (fun z => z)
  | succ N => exact h.2.2.2.2.2.1
/-- the way down from a node of the path -/
theorem PA.dn {m0 : yM} {T : Nat} {F : List ND} : ∀ (l : Nat) {N : Nat} {A : List Nat} {n : Nat}, PA m0 T F N A n → A.length = l → ∀ p, p ∈ A → ∃ c, c ∈ kids F p ∧ c ≤ n ∧ n + szF F n ≤ c + szF F c := by
  intro l
  induction l with
  | zero =>
    intro N A n _ e p hp
    rw [List.length_eq_zero_iff.mp e] at hp
    cases hp
  | succ l ih =>
    intro N A n h e p hp
    rcases h.up with ⟨y, -⟩ | ⟨B, q, M, e1, e2, e3, e4, e5⟩
    · rw [y] at e; cases e
    · have lB : B.length = l := by
        rw [e1, List.length_append, List.length_singleton] at e
        omega
      rw [e1] at hp
      rcases List.mem_append.mp hp with y | y
      · obtain ⟨c, c1, c2, c3⟩ := ih e5 lB p y
        have z := e5.1.kin e3
        exact ⟨c, c1, by omega, by omega⟩
      · rw [List.mem_singleton.mp y]
        exact ⟨n, e3, Nat.le_refl _, Nat.le_refl _⟩
theorem PA.par {m0 : yM} {T : Nat} {F : List ND} {N : Nat} {A : List Nat} {n : Nat} (h : PA m0 T F N A n) {p : Nat} (hp : p ∈ A) (hk : n ∈ kids F p) : fPar A = p := by
  rcases h.up with ⟨y, -⟩ | ⟨B, q, M, e1, e2, e3, e4, e5⟩
  · rw [y] at hp; cases hp
  · rw [e2]
    rw [e1] at hp
    rcases List.mem_append.mp hp with y | y
    · exfalso
      obtain ⟨c, c1, c2, c3⟩ := e5.dn B.length rfl p y
      have z := e5.1.kin e3
      obtain ⟨-, -, K, hK⟩ := e5.2.2 p y
      have := tile_ne _ _ hK.til c n c1 hk (by omega)
      omega
    · exact (List.mem_singleton.mp y).symm
/-- variables that an assignment or a coil names -/
def P12 (F : List ND) (A : List Nat) (i : Nat) (s : SU) : Prop := ∀ p, p ∈ A → (kK F p = 12 ∨ kK F p = 28) → p + 1 < i → p + 1 ∉ A → ∃ v, s.1.2.2.2.1 (p + 1) = nI v ∧ vOk s.1 v ∧ (curB s.1).2.2.2.2 ≤ v
theorem P12.b {m0 : yM} {T : Nat} {F : List ND} (h0 : kK F 0 = 0) {N : Nat} {A : List Nat} {n : Nat} {s : SU} {σ : RS} (hp : PA m0 T F N A n) (h1 : P1 F A n s) (h : P12 F A n s) (e : jb s n = .inl σ) : P12 F (A ++ [n]) (n + 1) (σ, s.2) := by
  have kn := (h1.1 n hp.lt.1 (Or.inl (Nat.le_refl _))).1
  intro p hpm kp p1 p2
  obtain ⟨p1, p2⟩ := mem_b p1 p2
  have pA : p ∈ A := by
    rcases List.mem_append.mp hpm with y | y
    · exact y
    · rw [List.mem_singleton.mp y] at p1; omega
  unfold jb at e
  by_cases q : bkN (s.1.2.2.1 n)
  · have kb : kK F n = 1 ∨ kK F n = 2 ∨ kK F n = 3 := by rw [kn] at q; exact (ch37e _ hp.1.k37).mp q
    have eA := hp.blk h0 kb
    rw [eA] at pA
    rw [List.mem_singleton.mp pA, h0] at kp
    omega
  · rw [if_neg q] at e
    rw [inl_e e]
    exact h p pA kp p1 p2
theorem P12.l {m0 : yM} {T : Nat} {F : List ND} (hF : HF m0 T F) {N : Nat} {A : List Nat} {n : Nat} {s : SU} {σ' : RS} (hp : PA m0 T F N A n) (h : PB F (A ++ [n]) (n + szF F n) s) (B0 : ¬ kK F n = 0 → 0 < s.1.1.length) (hq : P12 F (A ++ [n]) (n + szF F n) s) (e : lk F A s.1 s.2 n = .inl σ') : P12 F A (n + szF F n) (σ', nU s.1 s.2 n) := by
  have hb := h
  obtain ⟨h1, h2, h3, h3b, h4, h5, h6, h7, h8, h9, h10, h11⟩ := h
  have hn := hp.lt.1
  have k37 := hp.1.k37
  have at' := hp.1.at
  have nA : n ∈ A ++ [n] := List.mem_append_right _ List.mem_cons_self
  obtain ⟨kn, vn, tn⟩ := h1.1 n hn (Or.inr nA)
  obtain ⟨e1, e2, e3, e4, by'⟩ := lk_ef e (fun z => by
    rw [kn] at z
    exact (h1.2.2.2.2 n nA ((ch37e _ k37).mp z)).2.1)
  intro p hpm kp p1 p2
  show ∃ v, σ'.2.2.2.1 (p + 1) = nI v ∧ vOk σ' v ∧ (curB σ').2.2.2.2 ≤ v
  rw [by'.c.2.2.2]
  by_cases ne : p + 1 = n
  · obtain ⟨-, -, M, hM⟩ := hp.2.2 p hpm
    have ok := hM.ok
    have kid : n ∈ kids F p ∧ (kK F n = 6 ∨ kK F n = 32) := by
      rcases kp with k | k
      · rw [k] at ok
        obtain ⟨-, a, b, ha, hb', eks⟩ := ok
        obtain ⟨m1, m2, -⟩ := hM.k2 eks
        rw [← ne, m2]
        exact ⟨by rw [m1]; exact List.mem_cons_self, ha⟩
      · rw [k] at ok
        obtain ⟨-, -, eks⟩ := ok
        obtain ⟨m1, m2, -⟩ := hM.k1 eks
        rw [← ne, m2]
        exact ⟨by rw [m1]; exact List.mem_cons_self, Or.inl rfl⟩
    have fp := hp.par hpm kid.1
    have kps : s.1.2.2.1 p = nI (kK F p) := (h1.1 p (hp.lt.2 p hpm) (Or.inr (List.mem_append_left _ hpm))).1
    have B0 := B0 (by omega)
    have hD := allD_of h3 (hp.no5 (by omega) (fun _ => by rw [fp]; omega) (by omega) (n + szF F n))
    have fin : ∀ {x : Int32}, ¬ fVar s.1 x = -1 → σ'.2.2.2.1 n = fVar s.1 x → σ'.2.1 = s.1.2.1 → ∃ v, σ'.2.2.2.1 n = nI v ∧ vOk σ' v ∧ (curB s.1).2.2.2.2 ≤ v := by
      intro x hx q1 q2
      obtain ⟨v, w, v1, v2, v3, v4, v5, -⟩ := hb.var hF at'.1 B0 hD hx
      refine ⟨v, by rw [q1]; exact v2, ?_, v4⟩
      unfold vOk
      rw [q2]
      exact v5
    rw [ne]
    rcases kid.2 with k | k
    · rw [lk_6n (by rw [kn, k]; rfl)] at e
      unfold lkName at e
      rw [fp, kps, if_neg (by rcases kp with k | k <;> rw [k] <;> decide), if_neg (by rcases kp with k | k <;> rw [k] <;> decide)] at e
      obtain ⟨l1, l2, l3⟩ := lkVar_i e
      refine fin l1 ?_ (by rw [l3]; rfl)
      rw [l3]
      show upI _ n _ n = _
      rw [upI_n]
    · rw [lk_x (by rw [kn, k]; decide), lkX_32 (by rw [kn, k]; rfl)] at e
      obtain ⟨l1, l2, l3⟩ := lkElem_i e
      refine fin l1 ?_ (by rw [l3]; rfl)
      rw [l3]
      show upI _ n _ n = _
      rw [upI_n]
  · obtain ⟨v, v1, v2, v3⟩ := hq p (List.mem_append_left _ hpm) kp p1 (mem_l p2 ne)
    refine ⟨v, (e1 _ ne).2.trans v1, ?_, v3⟩
    obtain ⟨w1, y, w2⟩ := (vOk_i s.1 v).mp v2
    rw [vOk_i]
    rw [lk_st hF.2.1 hF.2.2.1 hp h1 h3 e w2]
    have := (lk_ev e).1
    exact ⟨by omega, y, w2⟩
/-- blocks, variables and their types as they were -/
def TEq (σ σ' : RS) : Prop := σ'.1 = σ.1 ∧ σ'.2.1 = σ.2.1 ∧ ∀ v, v < σ.2.1.length → σ'.2.2.1 (vD σ v).2.1 = σ.2.2.1 (vD σ v).2.1 ∧ σ'.2.2.2.1 (vD σ v).2.1 = σ.2.2.2.1 (vD σ v).2.1 ∧ σ'.2.2.2.2 (vD σ v).2.1 = σ.2.2.2.2 (vD σ v).2.1
theorem TEq.v {σ σ' : RS} (h : TEq σ σ') (v : Nat) : vD σ' v = vD σ v := by unfold vD; rw [h.2.1]
theorem TEq.fv {σ σ' : RS} (h : TEq σ σ') (x : Int32) : fVar σ' x = fVar σ x := by unfold fVar curB; rw [h.1, h.2.1]
theorem TEq.fr {σ σ' : RS} (h : TEq σ σ') {v : Nat} (hv : v < σ.2.1.length) : frm σ' v = frm σ v := by
  unfold frm
  rw [h.v]
  exact (h.2.2 v hv).1
theorem TEq.ty {σ σ' : RS} (h : TEq σ σ') {v : Nat} (hv : v < σ.2.1.length) : tyV σ' v = tyV σ v := by
  unfold tyV
  rw [h.fr hv, h.v, (h.2.2 v hv).2.1, (h.2.2 v hv).2.2]
theorem TEq.en {σ σ' : RS} (h : TEq σ σ') (b : Nat) : endV σ' b = endV σ b := by unfold endV; rw [h.1, h.2.1]
theorem TEq.pt {σ σ' : RS} (h : TEq σ σ') (nm w : Int32) : ∀ q v, v + q ≤ σ.2.1.length → ptR σ' nm w q v = ptR σ nm w q v
  | 0, v, _ => rfl
  | q + 1, v, hq => by
    have es : ∀ τ : RS, ptR τ nm w (q + 1) v = if (τ.2.1.getD v dVK).1 = nm ∧ (vD τ v).1 = w then 4 * (vD τ v).2.2.2 + tyV τ v else ptR τ nm w q (v + 1) := fun _ => rfl
    rw [es, es, h.v, h.2.1, h.ty (by omega), TEq.pt h nm w q (v + 1) (by omega)]
theorem TEq.pr {σ σ' : RS} (h : TEq σ σ') (hM : ∀ b, b < σ.1.length → (σ.1.getD b dBK).2.2.2.2 ≤ endV σ b ∧ endV σ b ≤ σ.2.1.length) {x : Int32} (hx : 9 ≤ x → (x - 9).toNatClampNeg < σ.1.length) (nm w : Int32) : prt σ' x nm w = prt σ x nm w := by
  unfold prt
  by_cases q : 9 ≤ x
  · rw [if_pos q, if_pos q, h.en, h.1]
    have := hM _ (hx q)
    exact h.pt nm w _ _ (by omega)
  · rw [if_neg q, if_neg q]
