/-! THE WRITERS: how long the code can be -/
abbrev nB (s : SU) (b : Nat) : Nat := (s.1.1.getD b dBK).2.1
def P21 (F : List ND) (A : List Nat) (i : Nat) (s : SU) : Prop := P18 F s ∧ (∀ b, b + 1 < s.1.1.length → nB s b + szF F (nB s b) ≤ nB s (b + 1)) ∧ (0 < s.1.1.length → nB s (s.1.1.length - 1) + szF F (nB s (s.1.1.length - 1)) ≤ i ∨ nB s (s.1.1.length - 1) ∈ A)
theorem P21.b {m0 : yM} {T : Nat} {F : List ND} (h0 : kK F 0 = 0) {N : Nat} {A : List Nat} {n : Nat} {s : SU} {σ : RS} (hp : PA m0 T F N A n) (h1 : P1 F A n s) (h : P21 F A n s) (e : jb s n = .inl σ) : P21 F (A ++ [n]) (n + 1) (σ, s.2) := by
  obtain ⟨a1, a2, a3⟩ := h
  refine ⟨P18.b hp h1 a1 e, ?_⟩
  have hn := hp.lt.1
  have k37 := hp.1.k37
  have kn := (h1.1 n hn (Or.inl (Nat.le_refl _))).1
  unfold jb at e
  by_cases q : bkN (s.1.2.2.1 n)
  · rw [if_pos q] at e
    have kb := (ch37e _ k37).mp (by rw [← kn]; exact q)
    have eA := hp.blk h0 kb
    unfold lkBeg at e
    split at e
    · cases e
    split at e
    · cases e
    · have e' := inl_e e
      obtain ⟨y1, y2, y3, y4, y5, y6, y7⟩ := beg_y s.1 n (s.1.2.2.1 n) (s.1.2.2.2.1 n)
      rw [← e'] at y1 y3 y7
      have y3 : nB (σ, s.2) s.1.1.length = n := by
        have y3 : (σ.1.getD (σ.1.length - 1) dBK).2.1 = n := y3
        rw [y1, Nat.add_sub_cancel] at y3
        exact y3
      have old : ∀ b, b < s.1.1.length → nB (σ, s.2) b = nB s b := fun b hb => by
        show (σ.1.getD b dBK).2.1 = _
        rw [y7 b hb]
      constructor
      · intro b hb
        have hb : b + 1 < σ.1.length := hb
        rw [y1] at hb
        rw [old b (by omega)]
        by_cases c : b + 1 < s.1.1.length
        · rw [old (b + 1) c]; exact a2 b c
        · have eb : b + 1 = s.1.1.length := by omega
          rw [eb, y3]
          have := a3 (by omega)
          rw [show s.1.1.length - 1 = b by omega] at this
          rcases this with w | w
          · exact w
          · exfalso
            rw [eA] at w
            have w := List.mem_singleton.mp w
            have := (a1 b (by omega)).2
            rw [show (s.1.1.getD b dBK).2.1 = 0 from w, h0] at this
            omega
      · intro _
        have : (σ, s.2).1.1.length - 1 = s.1.1.length := by show σ.1.length - 1 = _; omega
        rw [this, y3]
        exact Or.inr (List.mem_append_right _ List.mem_cons_self)
  · rw [if_neg q] at e
    have es : (σ, s.2) = s := by rw [inl_e e]
    rw [es]
    refine ⟨a2, fun z => ?_⟩
    rcases a3 z with w | w
    · exact Or.inl (by omega)
    · exact Or.inr (List.mem_append_left _ w)
theorem P21.l {m0 : yM} {T : Nat} {F : List ND} {N : Nat} {A : List Nat} {n : Nat} {s : SU} {σ' : RS} (hp : PA m0 T F N A n) (h1 : P1 F (A ++ [n]) (n + szF F n) s) (h : P21 F (A ++ [n]) (n + szF F n) s) (e : lk F A s.1 s.2 n = .inl σ') : P21 F A (n + szF F n) (σ', nU s.1 s.2 n) := by
  obtain ⟨a1, a2, a3⟩ := h
  refine ⟨P18.l hp h1 a1 e, ?_⟩
  have hn := hp.lt.1
  have k37 := hp.1.k37
  have nA : n ∈ A ++ [n] := List.mem_append_right _ List.mem_cons_self
  obtain ⟨kn, vn, tn⟩ := h1.1 n hn (Or.inr nA)
  obtain ⟨-, -, -, -, by1, by2⟩ := lk_ef e (fun z => by
    rw [kn] at z
    exact (h1.2.2.2.2 n nA ((ch37e _ k37).mp z)).2.1)
  have old : ∀ b, nB (σ', nU s.1 s.2 n) b = nB s b := fun b => (by2 b).2.1
  have ll : (σ', nU s.1 s.2 n).1.1.length = s.1.1.length := by1
  rw [ll]
  refine ⟨fun b hb => by rw [old, old]; exact a2 b hb, fun z => ?_⟩
  rw [old]
  rcases a3 z with w | w
  · exact Or.inl w
  · rcases List.mem_append.mp w with y | y
    · exact Or.inr y
    · left
      rw [List.mem_singleton.mp y]
      exact Nat.le_refl _
theorem jn_21 {m0 : yM} {T N : Nat} {F : List ND} (hF : HF m0 T F) (hW : TW m0 T F N 0) (hz : szF F 0 = F.length) {s : SU} (e : jn F N [] 0 (sg0 F) = .inl s) : P21 F [] F.length s := by
  have := jn_ind (P := fun A i s => PAll F A i s ∧ P21 F A i s) (m0 := m0) (T := T) (F := F) (fun N A n s σ hp h e => ⟨PAll.b hF hp h.1 e, P21.b hF.2.2.1 hp h.1.1.1 h.2 e⟩) (fun N A n s σ' hp h e => ⟨PAll.l hF hp h.1 e, P21.l hp h.1.1.1 h.2 e⟩) N [] 0 (sg0 F) ⟨hW, rfl, fun p hp => by cases hp⟩ ⟨PAll.z (fun j hj => hF.1.k hj), fun b hb => absurd hb (Nat.not_lt_zero _), fun b hb => absurd hb (Nat.not_lt_zero _), fun z => absurd z (Nat.lt_irrefl _)⟩ s e
  rw [hz, Nat.zero_add] at this
  exact this.2
/-- sizes of some nodes side by side -/
theorem til_s {F : List ND} : ∀ (L : List Nat) (i e : Nat), tile F L i e → i + (L.map (szF F)).sum = e
  | [], i, e, h => by have h : i = e := h; simp [h]
  | c :: L, i, e, h => by
    obtain ⟨rfl, h2⟩ := h
    have := til_s L (c + szF F c) e h2
    rw [List.map_cons, List.sum_cons]
    omega
theorem sum_le {f g : Nat → Nat} : ∀ (L : List Nat), (∀ c, c ∈ L → f c ≤ g c) → (L.map f).sum ≤ (L.map g).sum
  | [], _ => Nat.le_refl _
  | c :: L, h => by
    rw [List.map_cons, List.sum_cons, List.map_cons, List.sum_cons]
    have := sum_le L (fun x hx => h x (List.mem_cons_of_mem _ hx))
    have := h c List.mem_cons_self
    omega
theorem sum_k {f : Nat → Nat} (k : Nat) : ∀ (L : List Nat), (L.map (fun c => k * f c)).sum = k * (L.map f).sum
  | [] => by simp
  | c :: L => by
    rw [List.map_cons, List.sum_cons, List.map_cons, List.sum_cons, sum_k k L, Nat.mul_add]
theorem TW.sum {m0 : yM} {T : Nat} {F : List ND} {N n : Nat} (h : TW m0 T F N n) : ((kids F n).map (szF F)).sum + 1 = szF F n := by
  have := til_s _ _ _ h.til
  omega
theorem cOw_l (σ : RS) (b f0 : Nat) : ∀ k, (cOw σ b f0 k).length ≤ k
  | 0 => Nat.le_refl _
  | k + 1 => by
    show ((if (vD σ (f0 + k)).1 = 1 then [j3 6 (nI b) (vD σ (f0 + k)).2.2.2 0] else []) ++ cOw σ b f0 k).length ≤ k + 1
    have := cOw_l σ b f0 k
    rw [List.length_append]
    split
    · rw [List.length_singleton]; omega
    · rw [List.length_nil]; omega
theorem clA_l (f : Int32) {e : Nat → List IT} : ∀ (L : List Nat) (j : Nat), (clA f e L j).length ≤ (L.map (fun c => (e c).length + 1)).sum
  | [], j => Nat.le_refl _
  | c :: L, j => by
    show (e c ++ ((if f = 3 ∧ 1 ≤ j then [j1 7 (if j = 1 then 24 else 23)] else []) ++ clA f e L (j + 1))).length ≤ _
    have := clA_l f (e := e) L (j + 1)
    rw [List.length_append, List.length_append, List.map_cons, List.sum_cons]
    split
    · rw [List.length_singleton]; omega
    · rw [List.length_nil]; omega
theorem cE_l {m0 : yM} {T : Nat} {F : List ND} {s : SU} (hS : HS m0 T F s) (hV : s.1.2.1.length ≤ 4096) : ∀ (N n : Nat), TW m0 T F N n → (cE F s.1 N n).length + 1 ≤ 20000 * szF F n := by
  intro N
  induction N with
  | zero => intro n h; exact absurd h (fun z => z)
  | succ N ih =>
    intro n hW
    have at' := hW.at
    have hn : n < F.length := by omega
    have hs := hW.sum
    have ih' : ∀ c, c ∈ kids F n → (cE F s.1 N c).length + 1 ≤ 20000 * szF F c := fun c hc => ih c (hW.2.2.2.2.2.2 c hc)
    have k37 := hW.k37
    have ok := hW.ok
    have kk : ∀ k, k < 30 ∨ 30 < k → k < 37 → s.1.2.2.1 n = nI k → kK F n = k := by
      intro k hk1 hk z
      rcases hS.ks hn with y | ⟨y, -⟩
      · rw [y] at z; exact (nI_eq (by omega) (by omega)).mp z
      · rw [y] at z
        have := (nI_eq (a := 30) (by omega) (by omega)).mp (show nI 30 = nI k from z)
        omega
    have all : ((kids F n).map (fun c => (cE F s.1 N c).length + 1)).sum ≤ 20000 * (szF F n - 1) := by
      have a := sum_le (f := fun c => (cE F s.1 N c).length + 1) (g := fun c => 20000 * szF F c) (kids F n) ih'
      rw [sum_k, show ((kids F n).map (szF F)).sum = szF F n - 1 by omega] at a
      exact a
    have e20 : 20000 * szF F n = 20000 * (szF F n - 1) + 20000 := by omega
    have one : ∀ x, (([x] : List IT)).length = 1 := fun _ => rfl
    unfold cE
    split
    · rw [one]; omega
    split
    · rw [one]; omega
    split
    · rename_i z
      have k := kk 32 (by omega) (by omega) z
      rw [k] at ok
      obtain ⟨-, a, ha, eks⟩ := ok
      obtain ⟨m1, -⟩ := hW.k1 eks
      rw [m1, List.map_cons, List.sum_cons] at all
      rw [List.length_append, one]
      omega
    split
    · rw [List.length_append]
      have c1 := clA_l (s.1.2.2.2.1 n) (e := cE F s.1 N) (kids F n) 0
      have c2 : (clZ F s.1 n).length ≤ 4098 := by
        unfold clZ
        split
        · split
          · rw [one]; omega
          split
          · rw [List.length_nil]; omega
          split
          · rw [List.length_nil]; omega
          · rw [one]; omega
        · rw [List.length_append]
          have o1 := cOw_l s.1 (s.1.2.2.2.1 n - 10).toNatClampNeg (s.1.1.getD (s.1.2.2.2.1 n - 10).toNatClampNeg dBK).2.2.2.2 (endV s.1 (s.1.2.2.2.1 n - 10).toNatClampNeg - (s.1.1.getD (s.1.2.2.2.1 n - 10).toNatClampNeg dBK).2.2.2.2)
          have o2 : endV s.1 (s.1.2.2.2.1 n - 10).toNatClampNeg ≤ 4096 := by
            by_cases c : (s.1.2.2.2.1 n - 10).toNatClampNeg < s.1.1.length
            · have := (hS.fm _ c).2; omega
            · unfold endV; rw [if_neg (by omega)]; exact hV
          show _ + 2 ≤ 4098
          omega
      omega
    split
    · rename_i z
      have k := kk 35 (by omega) (by omega) z
      rw [k] at ok
      obtain ⟨-, -, a, b, ha, hb, eks⟩ := ok
      obtain ⟨m1, -⟩ := hW.k2 eks
      rw [m1, List.map_cons, List.sum_cons, List.map_cons, List.sum_cons] at all
      rw [List.length_append, List.length_append, one]
      omega
    split
    · rename_i z
      have k := kk 36 (by omega) (by omega) z
      rw [k] at ok
      obtain ⟨-, -, a, ha, eks⟩ := ok
      obtain ⟨m1, -⟩ := hW.k1 eks
      rw [m1, List.map_cons, List.sum_cons] at all
      rw [List.length_append, one]
      omega
    · rw [one]; omega
