/-! THE MACHINE, PURE: an instruction; a run of a unit. none: something that no code made does -/
abbrev PR : Type := (List Int32 × (Nat → Int32)) ⊕ Int32
def celI (b : Nat) (a : Int32) : Option Nat := if 0 ≤ a ∧ b + a.toNatClampNeg < 8192 then some (b + a.toNatClampNeg) else none
/-- an element's cell; some none: no such element -/
def elI (b : Nat) (x : IT) (i : Int32) : Option (Option Nat) := if 0 ≤ i.toInt - x.2.2.1.toInt ∧ i.toInt - x.2.2.1.toInt < x.2.2.2.1.toInt then (if 0 ≤ x.2.1 ∧ b + x.2.1.toNatClampNeg + (i.toInt - x.2.2.1.toInt).toNat < 8192 then some (some (b + x.2.1.toNatClampNeg + (i.toInt - x.2.2.1.toInt).toNat)) else none) else some none
/-- a cell of a function -/
def fnI (bs : Nat → Option Nat) (x : IT) : Option Nat := match bs x.2.1.toNatClampNeg with
  | some q => if 0 ≤ x.2.1 then celI q x.2.2.1 else none
  | none => none
def opTake (b : Nat) (x : IT) (M : Nat → Int32) : List Int32 → Option PR
  | i :: S => match elI b x i with
    | some (some c) => some (.inl (M c :: S, M))
    | some none => some (.inr (-4))
    | none => none
  | _ => none
def opPut (b : Nat) (x : IT) (M : Nat → Int32) : List Int32 → Option PR
  | v :: i :: S => match elI b x i with
    | some (some c) => some (.inl (S, upd M c v))
    | some none => some (.inr (-4))
    | none => none
  | _ => none
def opSto (o : Option Nat) (M : Nat → Int32) : List Int32 → Option PR
  | v :: S => match o with
    | some c => some (.inl (S, upd M c v))
    | none => none
  | _ => none
def opLd (o : Option Nat) (M : Nat → Int32) (S : List Int32) : Option PR := match o with
  | some c => if S.length < 1024 then some (.inl (M c :: S, M)) else none
  | none => none
abbrev divO (a : Int32) : Prop := a = 3 ∨ a = 4 ∨ a = 8 ∨ a = 9
def opTwo (x : IT) (M : Nat → Int32) : List Int32 → Option PR
  | y :: z :: S => if 0 ≤ x.2.1 ∧ x.2.1 ≤ 24 then (if divO x.2.1 ∧ y = 0 then some (.inr (-3)) else some (.inl (two_ x.2.1 z y :: S, M))) else none
  | _ => none
def opOne (x : IT) (M : Nat → Int32) : List Int32 → Option PR
  | v :: S => some (.inl (one_ x.2.1 v :: S, M))
  | _ => none
def opCho (M : Nat → Int32) : List Int32 → Option PR
  | y :: z :: c :: S => some (.inl ((if c = 0 then z else y) :: S, M))
  | _ => none
def opBlk (b : Nat) (now : Int32) (x : IT) (M : Nat → Int32) (S : List Int32) : Option PR := if 0 ≤ x.2.1 ∧ x.2.1.toNatClampNeg < 9 ∧ 0 ≤ x.2.2.1 ∧ b + x.2.2.1.toNatClampNeg + szK x.2.1.toNatClampNeg ≤ 8192 then some (.inl (S, bkF x.2.1.toNatClampNeg now (b + x.2.2.1.toNatClampNeg) M)) else none
/-- instructions that go on to the next -/
def oxP (b : Nat) (bs : Nat → Option Nat) (now : Int32) (x : IT) (S : List Int32) (M : Nat → Int32) : Option PR :=
  if x.1 = 0 then (if S.length < 1024 then some (.inl (x.2.1 :: S, M)) else none)
  else if x.1 = 1 then opLd (celI b x.2.1) M S
  else if x.1 = 2 then opSto (celI b x.2.1) M S
  else if x.1 = 3 then opTake b x M S
  else if x.1 = 4 then opPut b x M S
  else if x.1 = 5 then opLd (fnI bs x) M S
  else if x.1 = 6 then opSto (fnI bs x) M S
  else if x.1 = 7 then opTwo x M S
  else if x.1 = 8 then opOne x M S
  else if x.1 = 9 then opCho M S
  else if x.1 = 12 then (match celI b x.2.1 with
    | some c => some (.inl (S, upd M c x.2.2.1))
    | none => none)
  else if x.1 = 17 then opBlk b now x M S
  else none
/-- done, or a fault: the cells, and how many steps -/
abbrev XR : Type := (List Int32 × (Nat → Int32) × Nat) ⊕ (Int32 × (Nat → Int32) × Nat)
def tgN (a : Int32) : Option Nat := if 0 ≤ a ∧ a.toNatClampNeg ≤ 3000 then some a.toNatClampNeg else none
/-- from instruction i of unit u on; Us the units, bs where functions lie -/
def exU (Us : Nat → List IT) (bs : Nat → Option Nat) (now : Int32) : Nat → Nat → Nat → Nat → List Int32 → (Nat → Int32) → Nat → Option XR
  | 0 => fun _ _ _ _ _ _ => none
  | f + 1 => fun u b i S M n => match (Us u)[i]? with
    | none => some (.inl (S, M, n))
    | some x =>
      if x.1 = 10 ∨ x.1 = 14 then (match tgN x.2.1 with
        | some t => exU Us bs now f u b t S M (n + 1)
        | none => none)
      else if x.1 = 11 then (match S, tgN x.2.1 with
        | v :: S', some t => exU Us bs now f u b (if v = 0 then t else i + 1) S' M (n + 1)
        | _, _ => none)
      else if x.1 = 13 then (match celI b x.2.1, tgN x.2.2.1 with
        | some c, some t => if M c = 0 then exU Us bs now f u b t S M (n + 1) else exU Us bs now f u b (i + 1) S (upd M c (M c - 1)) (n + 1)
        | _, _ => none)
      else if x.1 = 15 ∨ x.1 = 16 then (match (if x.1 = 15 then (if 0 ≤ x.2.2.1 then some (b + x.2.2.1.toNatClampNeg) else none) else bs x.2.1.toNatClampNeg) with
        | some q => if 0 ≤ x.2.1 ∧ x.2.1.toNatClampNeg < u ∧ q ≤ 8192 then (match exU Us bs now f x.2.1.toNatClampNeg q 0 S M (n + 1) with
          | some (.inl r) => exU Us bs now f u b (i + 1) r.1 r.2.1 r.2.2
          | some (.inr r) => some (.inr r)
          | none => none) else none
        | none => none)
      else if x.1 = 18 then some (.inl (S, M, n + 1))
      else (match oxP b bs now x S M with
        | some (.inl r) => exU Us bs now f u b (i + 1) r.1 r.2 (n + 1)
        | some (.inr c) => some (.inr (c, M, n + 1))
        | none => none)
/-- steps only grow -/
theorem exU_n (Us : Nat → List IT) (bs : Nat → Option Nat) (now : Int32) : ∀ (f u b i : Nat) (S : List Int32) (M : Nat → Int32) (n : Nat) (R : XR), exU Us bs now f u b i S M n = some R → (∀ r, R = .inl r → n ≤ r.2.2) ∧ ∀ r, R = .inr r → n ≤ r.2.2 := by
  intro f
  induction f with
  | zero => intro u b i S M n R h; cases h
  | succ f ih =>
    intro u b i S M n R h
    have up : ∀ {u b i : Nat} {S : List Int32} {M : Nat → Int32} {k : Nat}, n ≤ k → exU Us bs now f u b i S M k = some R → (∀ r, R = .inl r → n ≤ r.2.2) ∧ ∀ r, R = .inr r → n ≤ r.2.2 := fun hk e => ⟨fun r er => Nat.le_trans hk ((ih _ _ _ _ _ _ _ e).1 r er), fun r er => Nat.le_trans hk ((ih _ _ _ _ _ _ _ e).2 r er)⟩
    unfold exU at h
    split at h
    · rw [← Option.some.inj h]
      exact ⟨(fun r e => by rw [← Sum.inl.inj e]; exact Nat.le_refl _), (fun r e => by cases e)⟩
    · split at h
      · split at h
        · exact up (by omega) h
        · cases h
      · split at h
        · split at h
          · exact up (by omega) h
          · cases h
        · split at h
          · split at h
            · split at h
              · exact up (by omega) h
              · exact up (by omega) h
            · cases h
          · split at h
            · split at h
              · split at h
                · split at h
                  · rename_i r e
                    have := (ih _ _ _ _ _ _ _ e).1 r rfl
                    exact up (by omega) h
                  · rename_i r e
                    have := (ih _ _ _ _ _ _ _ e).2 r rfl
                    rw [← Option.some.inj h]
                    exact ⟨(fun r e => by cases e), fun r e => by rw [← Sum.inr.inj e]; omega⟩
                  · cases h
                · cases h
              · cases h
            · split at h
              · rw [← Option.some.inj h]
                exact ⟨(fun r e => by rw [← Sum.inl.inj e]; exact Nat.le_succ _), (fun r e => by cases e)⟩
              · split at h
                · exact up (by omega) h
                · rw [← Option.some.inj h]
                  exact ⟨(fun r e => by cases e), fun r e => by rw [← Sum.inr.inj e]; exact Nat.le_succ _⟩
                · cases h
