/-! THE MACHINE: only cells below 8192 matter -/
def Mg (M M' : Nat → Int32) : Prop := ∀ x, x < 8192 → M x = M' x
theorem Mg.u {M M' : Nat → Int32} (h : Mg M M') (i : Nat) (v : Int32) : Mg (upd M i v) (upd M' i v) := fun x hx => by
  rw [upd_at, upd_at, h x hx]
theorem tm0_g {M M' : Nat → Int32} (h : Mg M M') (c : Nat) (on el w : Int32) : Mg (tm0 M c on el w) (tm0 M' c on el w) := (h.u _ _).u _ _
theorem tm1_g {M M' : Nat → Int32} (h : Mg M M') {c : Nat} (hc : c + 5 < 8192) (on was l w : Int32) : Mg (tm1 M c on was l w) (tm1 M' c on was l w) := by
  unfold tm1
  rw [h (c + 2) (by omega)]
  split
  · split
    · split
      · exact h
      · exact (h.u _ _).u _ _
    · exact (h.u _ _).u _ _
  · exact (h.u _ _).u _ _
theorem tm2a_g {M M' : Nat → Int32} (h : Mg M M') {c : Nat} (hc : c + 5 < 8192) (l w : Int32) : Mg (tm2a M c l w) (tm2a M' c l w) := by
  unfold tm2a
  rw [h (c + 2) (by omega)]
  split
  · exact h
  · split
    · exact h.u _ _
    · exact (h.u _ _).u _ _
theorem tm2b_g {M M' : Nat → Int32} (h : Mg M M') {c : Nat} (hc : c + 5 < 8192) (on was w : Int32) : Mg (tm2b M c on was w) (tm2b M' c on was w) := by
  unfold tm2b
  rw [h (c + 2) (by omega)]
  split
  · split
    · exact h.u _ _
    · split
      · exact (h.u _ _).u _ _
      · exact h
  · exact h
theorem bkF_g {M M' : Nat → Int32} (h : Mg M M') {k c : Nat} (now : Int32) (hc : c + szK k ≤ 8192) : Mg (bkF k now c M) (bkF k now c M') := by
  have h2 : c + 2 < 8192 := by
    unfold szK at hc
    split at hc <;> omega
  have e0 := h c (by omega)
  have e1 := h (c + 1) (by omega)
  have e2 := h (c + 2) (by omega)
  unfold bkF
  split
  · rename_i k3
    unfold szK at hc
    rw [if_pos (by omega)] at hc
    have e3 := h (c + 3) (by omega)
    have e4 := h (c + 4) (by omega)
    have e5 := h (c + 5) (by omega)
    have eW : tmW M c = tmW M' c := by unfold tmW; rw [e1]
    have eL : tmL now M c = tmL now M' c := by unfold tmL; rw [eW, e3, e5]
    unfold tmrF
    rw [e0, e4, eW, eL]
    refine (Mg.u ?_ _ _).u _ _
    split
    · exact tm0_g h _ _ _ _
    · split
      · exact tm1_g h (by omega) _ _ _ _
      · exact tm2b_g (tm2a_g h (by omega) _ _) (by omega) _ _ _
  · split
    · unfold szK at hc
      rw [if_pos (by omega)] at hc
      have e4 := h (c + 4) (by omega)
      have e5 := h (c + 5) (by omega)
      have eC : ctC k c M = ctC k c M' := by unfold ctC; rw [e0, e1, e2, e4, e5]
      unfold ctF
      rw [e0, e2, eC]
      exact ((h.u _ _).u _ _).u _ _
    · split
      · unfold egF
        rw [e0, e2]
        exact (h.u _ _).u _ _
      · unfold srF
        rw [e0, e1, e2]
        exact h.u _ _
theorem celI_l {b : Nat} {a : Int32} {c : Nat} (h : celI b a = some c) : c < 8192 := (celI_s h).2.1
theorem fnI_l {bs : Nat → Option Nat} {x : IT} {c : Nat} (h : fnI bs x = some c) : c < 8192 := by
  obtain ⟨g, q, -, -, -, e⟩ := fnI_s h
  exact celI_l e
/-- the same answer, but for cells above -/
def PRg (X : Option PR) (M : Nat → Int32) (Y : Option PR) : Prop := match X with
  | none => True
  | some (.inl (S, N)) => ∃ N', Y = some (.inl (S, N')) ∧ Mg N N'
  | some (.inr c) => Y = some (.inr c)
theorem opLd_g {M M' : Nat → Int32} (h : Mg M M') {o : Option Nat} (ho : ∀ c, o = some c → c < 8192) (S : List Int32) : PRg (opLd o M S) M (opLd o M' S) := by
  cases o with
  | none => trivial
  | some c =>
    have e := h c (ho c rfl)
    unfold opLd
    dsimp only
    by_cases l : S.length < 1024
    · rw [if_pos l, if_pos l]
      exact ⟨M', by rw [e], h⟩
    · rw [if_neg l]
      trivial
theorem opSto_g {M M' : Nat → Int32} (h : Mg M M') (o : Option Nat) (S : List Int32) : PRg (opSto o M S) M (opSto o M' S) := by
  cases S with
  | nil => trivial
  | cons v S =>
    cases o with
    | none => trivial
    | some c => exact ⟨_, rfl, h.u _ _⟩
