/-! THE WRITER: rungs, what they come to -/
def celK (F : List ND) (K : List Nat) : List Nat := K.filter (fun i => decide (¬ kK F i = 29))
abbrev cel (F : List ND) (r : Nat) : List Nat := celK F (kids F r)
def gdR (F : List ND) (j : Nat) : Prop := (kids F j).length ≤ 12 ∧ ∀ r, r ∈ kids F j → (cel F r).length ≤ 12 ∧ (cel F r).length = (cel F (j + 1)).length
def P16 (F : List ND) (A : List Nat) (i : Nat) : Prop := ∀ j, j < F.length → j < i → j ∉ A → kK F j = 23 → gdR F j
theorem cntL_e {F : List ND} {σ : RS} : ∀ (K : List Nat) (a : Nat), (∀ i, i ∈ K → (σ.2.2.1 i = 29 ↔ kK F i = 29)) → cntL σ K (nI a) = nI (a + (celK F K).length)
  | [], a, _ => rfl
  | x :: K, a, h => by
    show cntL σ K (nI a + (if σ.2.2.1 x = 29 then 0 else 1)) = _
    have hx := h x List.mem_cons_self
    unfold celK
    by_cases c : kK F x = 29
    · rw [if_pos (hx.mpr c), List.filter_cons_of_neg (by simpa using c), Int32.add_zero]
      exact cntL_e K a (fun i hi => h i (List.mem_cons_of_mem _ hi))
    · rw [if_neg (fun z => c (hx.mp z)), List.filter_cons_of_pos (by simpa using c), nI_1, cntL_e K (a + 1) (fun i hi => h i (List.mem_cons_of_mem _ hi)), List.length_cons]
      congr 1
      show a + 1 + (celK F K).length = a + ((celK F K).length + 1)
      omega
theorem celK_le (F : List ND) (K : List Nat) : (celK F K).length ≤ K.length := List.length_filter_le ..
theorem P16.l {m0 : yM} {T : Nat} {F : List ND} (hF : HF m0 T F) {N : Nat} {A : List Nat} {n : Nat} {s : SU} {σ' : RS} (hp : PA m0 T F N A n) (h : PAll F (A ++ [n]) (n + szF F n) s) (hq : P16 F (A ++ [n]) (n + szF F n)) (e : lk F A s.1 s.2 n = .inl σ') : P16 F A (n + szF F n) := by
  intro j j1 j2 j3 k
  by_cases ne : j = n
  · subst ne
    have h1 := h.1.1
    have hW := hp.1
    have nA : j ∈ A ++ [j] := List.mem_append_right _ List.mem_cons_self
    obtain ⟨kn, vn, tn⟩ := h1.1 j j1 (Or.inr nA)
    rw [lk_23.1 (by rw [kn, k]; rfl)] at e
    have ok := hW.ok
    rw [k] at ok
    obtain ⟨-, ne, all⟩ := ok
    have til := hW.til
    have kl : (kids F j).length ≤ 16400 := by
      have a := kds_len F (j + szF F j) (szF F j) (j + 1)
      have at' := hW.at
      have := hF.2.2.2.1
      unfold kids
      omega
    cases hk : kids F j with
    | nil => rw [hk] at ne; exact absurd rfl ne
    | cons r K =>
      rw [hk] at til
      obtain ⟨rfl, -⟩ := til
      have hc : ∀ x, x ∈ kids F j → cntL s.1 (kids F x) 0 = nI (cel F x).length ∧ (cel F x).length ≤ 16400 := by
        intro x hx
        have z := hW.kin hx
        have rl : (kids F x).length ≤ 16400 := by
          have a := kds_len F (x + szF F x) (szF F x) (x + 1)
          have := hF.2.2.2.1
          have at' := hW.at
          unfold kids
          omega
        have kx := hW.mk all hx
        refine ⟨?_, by have := celK_le F (kids F x); unfold cel; omega⟩
        have := cntL_e (F := F) (σ := s.1) (kids F x) 0 (fun i hi => ?_)
        · rw [Nat.zero_add] at this; exact this
        · obtain ⟨M, hM⟩ := hF.1 x z.2.2.2.1
          have zi := hM.kin hi
          have oki := hM.ok
          rw [kx] at oki
          obtain ⟨-, c, t, o1, o2, o3⟩ := oki
          have ki : lcK (kK F i) ∨ kK F i = 29 := by
            have : kK F i ∈ c :: t := by rw [← o3]; exact List.mem_map_of_mem hi
            rcases List.mem_cons.mp this with y | y
            · rw [y]; exact Or.inl o1
            · exact o2 _ y
          rcases h1.2.1 i zi.2.2.2.1 with y | ⟨y, w⟩
          · rw [y]
            exact nI_eq (b := 29) (by unfold lcK at ki; omega) (by omega)
          · unfold lcK at ki; omega
      rw [hk] at hc kl
      unfold lkRung at e
      rw [hk, rgB_z F s.1 (j + 1) K (by rw [List.length_cons] at kl; omega)] at e
      unfold gdR
      rw [hk]
      by_cases q : (decide (12 < ((j + 1) :: K).length) || ((j + 1) :: K).any (rwB F s.1 (cntL s.1 (kids F (j + 1)) 0))) = true
      · rw [if_pos q] at e; cases e
      · have q1 : ¬ 12 < ((j + 1) :: K).length := fun z => q (by rw [decide_eq_true z, Bool.true_or])
        refine ⟨by omega, fun x hx => ?_⟩
        obtain ⟨c1, c2⟩ := hc x hx
        obtain ⟨c3, c4⟩ := hc (j + 1) List.mem_cons_self
        have q2 : ¬ rwB F s.1 (cntL s.1 (kids F (j + 1)) 0) x = true := fun z => q (by rw [List.any_eq_true.mpr ⟨x, hx, z⟩, Bool.or_true])
        rw [c3] at q2
        constructor
        · rcases Nat.lt_or_ge 12 (cel F x).length with w | w
          · exact absurd (decide_eq_true (Or.inl (by rw [c1]; exact nI_lt (a := 12) w (by omega)))) q2
          · exact w
        · by_cases w : (cel F x).length = (cel F (j + 1)).length
          · exact w
          · have y' : ¬ cntL s.1 (kids F x) 0 = nI (cel F (j + 1)).length := fun y => w ((nI_eq (by omega) (by omega)).mp (by rw [← c1]; exact y))
            exact absurd (decide_eq_true (Or.inr y')) q2
  · exact hq j j1 j2 (mem_l j3 ne) k
theorem jn_16 {m0 : yM} {T N : Nat} {F : List ND} (hF : HF m0 T F) (hW : TW m0 T F N 0) (hz : szF F 0 = F.length) {s : SU} (e : jn F N [] 0 (sg0 F) = .inl s) : P16 F [] F.length := by
  have := jn_ind (P := fun A i s => PAll F A i s ∧ P16 F A i) (m0 := m0) (T := T) (F := F) (fun N A n s σ hp h e => ⟨PAll.b hF hp h.1 e, fun j j1 j2 j3 => by obtain ⟨a, b⟩ := mem_b j2 j3; exact h.2 j j1 a b⟩) (fun N A n s σ' hp h e => ⟨PAll.l hF hp h.1 e, P16.l hF hp h.1 h.2 e⟩) N [] 0 (sg0 F) ⟨hW, rfl, fun p hp => by cases hp⟩ ⟨PAll.z (fun j hj => hF.1.k hj), fun j _ hj => absurd hj (Nat.not_lt_zero _)⟩ s e
  rw [hz, Nat.zero_add] at this
  exact this.2
/-- a row has a link behind its l-th cell -/
def lnS (F : List ND) : List Nat → Nat → Nat → Bool
  | [] => fun _ _ => false
  | x :: K => fun j l => if kK F x = 29 then (decide (j = l) || lnS F K j l) else lnS F K (j + 1) l
abbrev ln (F : List ND) (r l : Nat) : Bool := lnS F (kids F r) 0 l
def lsR (F : List ND) (R : List Nat) (l : Nat) : Nat → Nat
  | 0 => 0
  | k + 1 => if ln F (R.getD k 0) l = true then lsR F R l k else k + 1
def clR (F : List ND) (R : List Nat) (row l : Nat) : Nat := (cel F (R.getD row 0)).getD (l - 1) 0
def opC (σ : RS) (n : Nat) : Int32 := if σ.2.2.1 n = 6 then (vD σ (σ.2.2.2.1 n).toNatClampNeg).2.2.2 else σ.2.2.2.1 n
def cnC (σ : RS) (n : Nat) : List IT := (if σ.2.2.2.1 n = 3 then [j1 1 (σ.2.2.2.2 n)] else []) ++ ([j1 1 (opC σ (n + 1))] ++ ((if σ.2.2.2.1 n = 2 then [j1 1 (σ.2.2.2.2 n)] else []) ++ ((if σ.2.2.2.1 n = 0 then [] else [j1 8 2]) ++ ([j1 7 10] ++ (if σ.2.2.2.1 n < 2 then [] else [j1 7 10, j1 1 (opC σ (n + 1)), j1 2 (σ.2.2.2.2 n)])))))
def pwO (F : List ND) (R : List Nat) (pw : Int32) (row l : Nat) : Int32 := pw + 12 * (nI l - 1) + nI (lsR F R l row)
def fdC (F : List ND) (R : List Nat) (pw : Int32) (row l : Nat) : IT := if l = 1 then j1 0 1 else j1 1 (pwO F R pw row (l - 1))
def coC (F : List ND) (σ : RS) (R : List Nat) (pw : Int32) (cols row n : Nat) : List IT := (if σ.2.2.2.1 n < 2 then [] else [j1 1 (opC σ (n + 1))]) ++ ([fdC F R pw row cols] ++ ((if σ.2.2.2.1 n = 1 ∨ σ.2.2.2.1 n = 3 then [j1 8 2] else []) ++ ((if σ.2.2.2.1 n < 2 then [] else [j1 7 (if σ.2.2.2.1 n = 2 then 11 else 10)]) ++ [j1 2 (opC σ (n + 1))])))
/-- the rows of a group, from one on -/
def gpR (F : List ND) (σ : RS) (R : List Nat) (pw : Int32) (l a : Nat) : Nat → Nat → Nat → List IT
  | 0 => fun _ fed => if fed = 0 then [j1 0 0] else []
  | k + 1 => fun row fed => if lsR F R l row = a then (if kK F (clR F R row l) = 27 then gpR F σ R pw l a k (row + 1) fed else [fdC F R pw row l] ++ ((if kK F (clR F R row l) = 25 then cnC σ (clR F R row l) else []) ++ ((if fed = 0 then [] else [j1 7 11]) ++ gpR F σ R pw l a k (row + 1) (fed + 1)))) else if fed = 0 then [j1 0 0] else []
def gpC (F : List ND) (σ : RS) (R : List Nat) (pw : Int32) (l a : Nat) : List IT := gpR F σ R pw l a (R.length - a) a 0 ++ [j1 2 (pwO F R pw a l)]
/-- the groups of a line -/
def gpL (F : List ND) (σ : RS) (R : List Nat) (pw : Int32) (cols l : Nat) : Nat → Nat → List IT
  | 0 => fun _ => []
  | k + 1 => fun row => (if lsR F R l row = row ∧ ¬ (l = cols ∧ kK F (clR F R row l) = 28) then gpC F σ R pw l row else []) ++ gpL F σ R pw cols l k (row + 1)
def lnC (F : List ND) (σ : RS) (R : List Nat) (pw : Int32) (cols : Nat) : Nat → Nat → List IT
  | 0 => fun _ => []
  | k + 1 => fun l => gpL F σ R pw cols l R.length 0 ++ lnC F σ R pw cols k (l + 1)
def coL (F : List ND) (σ : RS) (R : List Nat) (pw : Int32) (cols : Nat) : Nat → Nat → List IT
  | 0 => fun _ => []
  | k + 1 => fun row => (if kK F (clR F R row cols) = 28 then coC F σ R pw cols row (clR F R row cols) else []) ++ coL F σ R pw cols k (row + 1)
def rgC (F : List ND) (σ : RS) (pw : Int32) (n : Nat) : List IT := lnC F σ (kids F n) pw (cel F (n + 1)).length (cel F (n + 1)).length 1 ++ coL F σ (kids F n) pw (cel F (n + 1)).length (kids F n).length 0
def laC (F : List ND) (σ : RS) (pw : Int32) : List Nat → List IT
  | [] => []
  | n :: L => rgC F σ pw n ++ laC F σ pw L
