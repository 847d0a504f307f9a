/-! JUDGE: a look's answer, and what every look has -/
def LKQ (J : JV) (A : List Nat) (n : Nat) (s : SU) (m : yM) (R : RS ⊕ Int32) (r : Option Value) (m' : yM) : Prop := r = none ∧ JX m m' ∧ match R with
  | .inr c => FE J c n m'
  | .inl σ' => RX J A (n + szF J.2.2.1 n) (σ', nU s.1 s.2 n) m'
def CX (m0 : yM) (T : Nat) (J : JV) (N : Nat) (A : List Nat) (n : Nat) (s : SU) (m : yM) : Prop := (HF m0 T J.2.2.1 ∧ HN J.2.2.1 ∧ JO J) ∧ PA m0 T J.2.2.1 N A n ∧ PAll J.2.2.1 (A ++ [n]) (n + szF J.2.2.1 n) s ∧ RX J (A ++ [n]) (n + szF J.2.2.1 n) s m
abbrev DN (J : JV) (A : List Nat) (n : Nat) (s : SU) : Nat → Prop := DD J.2.2.1 (A ++ [n]) (n + szF J.2.2.1 n) s
theorem CX.k {m0 : yM} {T : Nat} {J : JV} {N : Nat} {A : List Nat} {n : Nat} {s : SU} {m : yM} (h : CX m0 T J N A n s m) (kb : ¬ (kK J.2.2.1 n = 1 ∨ kK J.2.2.1 n = 2 ∨ kK J.2.2.1 n = 3)) (k6 : ¬ (kK J.2.2.1 n = 6 ∧ kK J.2.2.1 (fPar A) = 5)) {d j : Nat} {as : List Value} {G : xG} (c : yC G d j as m (JQ J (fun i => DN J A n s i ∨ i = n) m n (lk J.2.2.1 A s.1 s.2 n))) : yC G d j as m (LKQ J A n s m (lk J.2.2.1 A s.1 s.2 n)) := by
  refine yC.mono (Nat.le_refl _) (fun r m' q => ?_) c
  obtain ⟨q1, q2, q3⟩ := q
  refine ⟨q1, q2.x, ?_⟩
  rcases hl : lk J.2.2.1 A s.1 s.2 n with σ' | c
  · rw [hl] at q3
    exact RX.k h.1.1 h.2.1 h.2.2.1 h.2.2.2 hl kb k6 (fun v => q2.1 81 v (by omega) (by omega)) (fun j _ _ => q2.1 86 _ (by omega) (by omega)) q3 (fun j hj => hj.imp (fun z => z.1) (fun z => z.1))
  · rw [hl] at q3
    exact q3
theorem CX.k0 {m0 : yM} {T : Nat} {J : JV} {N : Nat} {A : List Nat} {n : Nat} {s : SU} {m : yM} (h : CX m0 T J N A n s m) (kb : ¬ (kK J.2.2.1 n = 1 ∨ kK J.2.2.1 n = 2 ∨ kK J.2.2.1 n = 3)) (k6 : ¬ (kK J.2.2.1 n = 6 ∧ kK J.2.2.1 (fPar A) = 5)) (kt : xNm J.2.2.1 n ∨ (¬ exK (kK J.2.2.1 n) ∧ ¬ (kK J.2.2.1 n = 13 ∨ kK J.2.2.1 n = 19 ∨ kK J.2.2.1 n = 14))) {d j : Nat} {as : List Value} {G : xG} (c : yC G d j as m (JQ J (DN J A n s) m n (lk J.2.2.1 A s.1 s.2 n))) : yC G d j as m (LKQ J A n s m (lk J.2.2.1 A s.1 s.2 n)) := by
  refine yC.mono (Nat.le_refl _) (fun r m' q => ?_) c
  obtain ⟨q1, q2, q3⟩ := q
  refine ⟨q1, q2.x, ?_⟩
  rcases hl : lk J.2.2.1 A s.1 s.2 n with σ' | c
  · rw [hl] at q3
    have go : ∀ {D' : Nat → Prop}, RJ J D' σ' m' → (∀ j, (DN J A n s j ∧ ¬ j = n) ∨ (j = n ∧ ¬ xNm J.2.2.1 n ∧ (kK J.2.2.1 n = 14 → gdI s.1 (vF J.2.2.1 (fPar A)))) → D' j) → RX J A (n + szF J.2.2.1 n) (σ', nU s.1 s.2 n) m' := fun r hd => RX.k h.1.1 h.2.1 h.2.2.1 h.2.2.2 hl kb k6 (fun v => q2.1 81 v (by omega) (by omega)) (fun j _ _ => q2.1 86 _ (by omega) (by omega)) r hd
    rcases kt with z | ⟨z1, z2⟩
    · exact go q3 (fun j hj => hj.elim (fun y => y.1) (fun y => absurd z y.2.1))
    · exact go (q3.ad h.2.1.lt.1 z1 z2) (fun j hj => hj.imp (fun z => z.1) (fun z => z.1))
  · rw [hl] at q3
    exact q3
theorem CX.p {m0 : yM} {T : Nat} {J : JV} {N : Nat} {A : List Nat} {n : Nat} {s : SU} {m : yM} (h : CX m0 T J N A n s m) (kn : kK J.2.2.1 n = 14 ∨ kK J.2.2.1 n = 33) {D' : Nat → Prop} (hd : ∀ j, (DN J A n s j ∧ ¬ j = n) ∨ (j = n ∧ ¬ xNm J.2.2.1 n ∧ (kK J.2.2.1 n = 14 → gdI s.1 (vF J.2.2.1 (fPar A)))) → D' j) {d j : Nat} {as : List Value} {G : xG} (c : yC G d j as m (JQp J D' m n (lk J.2.2.1 A s.1 s.2 n))) : yC G d j as m (LKQ J A n s m (lk J.2.2.1 A s.1 s.2 n)) := by
  refine yC.mono (Nat.le_refl _) (fun r m' q => ?_) c
  obtain ⟨q1, q2, q3⟩ := q
  refine ⟨q1, q2.x, ?_⟩
  rcases hl : lk J.2.2.1 A s.1 s.2 n with σ' | c
  · rw [hl] at q3
    refine RX.k h.1.1 h.2.1 h.2.2.1 h.2.2.2 hl (by omega) (by omega) (fun v => q2.1 81 v (by omega) (by omega)) (fun j j1 j2 => q2.1 86 _ (by omega) (Or.inr (Or.inr (Or.inr (Or.inl ⟨rfl, fun z => ?_⟩))))) q3 hd
    have := h.2.2.2.1.1.2.2.1 j n j1 h.2.1.lt.1 z
    rw [this] at j2
    omega
  · rw [hl] at q3
    exact q3
/-- the node itself -/
theorem CX.n {m0 : yM} {T : Nat} {J : JV} {N : Nat} {A : List Nat} {n : Nat} {s : SU} {m : yM} (h : CX m0 T J N A n s m) : n < J.2.2.1.length ∧ s.1.2.2.1 n = nI (kK J.2.2.1 n) ∧ s.1.2.2.2.1 n = vF J.2.2.1 n ∧ s.1.2.2.2.2 n = 0 := ⟨h.2.1.lt.1, h.2.2.1.1.1.1 n h.2.1.lt.1 (Or.inr (List.mem_append_right _ List.mem_cons_self))⟩
theorem CX.b0 {m0 : yM} {T : Nat} {J : JV} {N : Nat} {A : List Nat} {n : Nat} {s : SU} {m : yM} (h : CX m0 T J N A n s m) (k : ¬ kK J.2.2.1 n = 0) : 0 < s.1.1.length := PB.b0 h.1.1.2.2.1 h.2.1 h.2.2.1.1.1 k
theorem CX.nb {m0 : yM} {T : Nat} {J : JV} {N : Nat} {A : List Nat} {n : Nat} {s : SU} {m : yM} (h : CX m0 T J N A n s m) : s.1.1.length ≤ 391 ∧ s.1.2.1.length ≤ 4095 ∧ (∀ b, b < s.1.1.length → endV s.1 b ≤ s.1.2.1.length) ∧ (0 < s.1.1.length → (curB s.1).2.2.2.2 ≤ s.1.2.1.length) := h.2.2.1.1.nb h.1.1 h.2.1.1.at.1
theorem CX.ds {m0 : yM} {T : Nat} {J : JV} {N : Nat} {A : List Nat} {n : Nat} {s : SU} {m : yM} (h : CX m0 T J N A n s m) (k : ¬ kK J.2.2.1 n = 0) : dsB s.1 := dsB_of h.2.2.1.1.2.2.2.2.1 (h.b0 k)
theorem CX.aD {m0 : yM} {T : Nat} {J : JV} {N : Nat} {A : List Nat} {n : Nat} {s : SU} {m : yM} (h : CX m0 T J N A n s m) (h1 : ¬ (kK J.2.2.1 n = 7 ∨ kK J.2.2.1 n = 8 ∨ kK J.2.2.1 n = 9 ∨ kK J.2.2.1 n = 10 ∨ kK J.2.2.1 n = 30 ∨ kK J.2.2.1 n = 31)) (h6 : kK J.2.2.1 n = 6 → ¬ kK J.2.2.1 (fPar A) = 5) (h5 : ¬ kK J.2.2.1 n = 5) : allD s.1 := allD_of h.2.2.1.1.2.2.1 (h.2.1.no5 h1 h6 h5 _)
/-- the node above -/
theorem CX.up {m0 : yM} {T : Nat} {J : JV} {N : Nat} {A : List Nat} {n : Nat} {s : SU} {m : yM} (h : CX m0 T J N A n s m) (k : ¬ kK J.2.2.1 n = 0) : fPar A ∈ A ∧ fPar A < J.2.2.1.length ∧ n ∈ kids J.2.2.1 (fPar A) ∧ (∃ j : Nat, (kids J.2.2.1 (fPar A))[j]? = some n) ∧ kK J.2.2.1 n ∈ kidK (kK J.2.2.1 (fPar A)) ∧ s.1.2.2.1 (fPar A) = nI (kK J.2.2.1 (fPar A)) ∧ s.1.2.2.2.1 (fPar A) = vF J.2.2.1 (fPar A) ∧ kK J.2.2.1 (fPar A) < 37 ∧ fPar A < n ∧ ∃ M B, A = B ++ [fPar A] ∧ PA m0 T J.2.2.1 M B (fPar A) := by
  rcases h.2.1.up with ⟨y1, y2⟩ | ⟨B, q, M, e1, e2, e3, e4, e5⟩
  · rw [y2] at k; exact absurd h.1.1.2.2.1 k
  · have qA : q ∈ A := by rw [e1]; exact List.mem_append_right _ List.mem_cons_self
    have ql := h.2.1.lt.2 q qA
    obtain ⟨a1, a2, -⟩ := h.2.2.1.1.1.1 q ql (Or.inr (List.mem_append_left _ qA))
    rw [e2]
    exact ⟨qA, ql, e3, List.getElem?_of_mem e3, e4, a1, a2, e5.1.k37, (e5.1.kin e3).1, M, B, e1, e5⟩
theorem CX.at {m0 : yM} {T : Nat} {J : JV} {N : Nat} {A : List Nat} {n : Nat} {s : SU} {m : yM} (h : CX m0 T J N A n s m) : AT J s.1 A n := by
  refine ⟨h.2.1.lt.1, h.2.1.2.1, fun p hp => ?_, h.2.1.lt.2⟩
  obtain ⟨a1, a2, -⟩ := h.2.2.1.1.1.1 p (h.2.1.lt.2 p hp) (Or.inr (List.mem_append_left _ hp))
  obtain ⟨-, -, M, hM⟩ := h.2.1.2.2 p hp
  exact ⟨a1, a2, fun k => hM.nm (by omega), hM.k37⟩
/-- a node below is known -/
theorem CX.kd {m0 : yM} {T : Nat} {J : JV} {N : Nat} {A : List Nat} {n : Nat} {s : SU} {m : yM} (h : CX m0 T J (N + 1) A n s m) {c : Nat} (hc : c ∈ kids J.2.2.1 n) (k6 : kK J.2.2.1 c = 6 → ¬ (kK J.2.2.1 n = 5 ∨ kK J.2.2.1 n = 33)) (k14 : ¬ kK J.2.2.1 c = 14) : DN J A n s c := by
  obtain ⟨j, hj⟩ := List.getElem?_of_mem hc
  have pc := h.2.1.kd hj
  have z := h.2.1.1.kin hc
  refine ⟨z.2.2.2.1, z.2.1, fun y => ?_, fun y => ?_, fun y => absurd y k14⟩
  · have := (pc.2.2 c y).1
    omega
  · obtain ⟨y1, p, y2, y3, y4⟩ := y
    have o := pc.one h.1.1.1 y2 y3
    have o2 := pc.one h.1.1.1 h.2.1.lt.1 hc
    rw [o.2] at o2
    rw [o2.2] at y4
    exact k6 y1 y4
theorem CN_of {m0 : yM} {T : Nat} {J : JV} {A : List Nat} {i : Nat} {s : SU} (hW : HW m0 T J.2.2.1) (h1 : P1 J.2.2.1 A i s) {j : Nat} (hj : j < J.2.2.1.length) (k : cnK (kK J.2.2.1 j)) : CN J s.1 j := by
  obtain ⟨M, hM⟩ := hW j hj
  have ok := hM.ok
  refine ⟨hj, k, ?_, ?_, ?_⟩
  · rcases h1.2.1 j hj with y | ⟨y, z⟩
    · exact y
    · rcases k with k | k <;> omega
  · rcases k with k | k <;> rw [k] at ok <;> exact ok.1
  · exact h1.2.2.1 j hj (by rcases k with k | k <;> rw [k] <;> decide)
/-- the last node below -/
theorem tile_z {F : List ND} {e : Nat} : ∀ (L : List Nat) (i : Nat), tile F L i e → (∀ c, c ∈ L → 0 < szF F c) → ∀ j c : Nat, L[j]? = some c → (c + szF F c = e ↔ L[j + 1]? = none)
  | [], i, _, _, j, c, h => by cases h
  | a :: L, i, ht, hz, j, c, h => by
    obtain ⟨rfl, ht⟩ := ht
    cases j with
    | zero =>
      have := Option.some.inj h
      subst this
      cases L with
      | nil => exact ⟨fun _ => rfl, fun _ => ht⟩
      | cons b L =>
        obtain ⟨rfl, ht⟩ := ht
        refine ⟨fun z => ?_, fun z => by cases z⟩
        exfalso
        have le := tile.le ht
        have := hz _ (List.mem_cons_of_mem _ List.mem_cons_self)
        omega
    | succ j => exact tile_z L _ ht (fun c hc => hz c (List.mem_cons_of_mem _ hc)) j c h
theorem lkI_n {I : Nat → Nat} {o : Option Nat} (h : ∀ c, o = some c → I c < 20000) : lkI I o = -1 ↔ o = none := by
  cases o with
  | none => exact ⟨fun _ => rfl, fun _ => rfl⟩
  | some c => exact ⟨fun z => absurd z (nI_m1 (by have := h c rfl; omega)), fun z => by cases z⟩
theorem CX.la {m0 : yM} {T : Nat} {J : JV} {m : yM} (hT : JT J m) {p n M : Nat} (hp : p < J.2.2.1.length) (hM : TW m0 T J.2.2.1 M p) (hk : n ∈ kids J.2.2.1 p) : (n + szF J.2.2.1 n = p + szF J.2.2.1 p) ↔ m.1 68 (J.2.2.2 n) = -1 := by
  obtain ⟨j, hj⟩ := List.getElem?_of_mem hk
  rw [((hT.2.1 p hp).2.2.2.2.2.2.2.2 j n hj).2.2, lkI_n (fun c hc => (hT.2.1 c ((hT.2.1 p hp).2.2.2.2.2.2.2.2 (j + 1) c hc).1).1)]
  exact tile_z _ _ hM.til (fun c hc => (hM.kin hc).2.2.2.2) j n hj
