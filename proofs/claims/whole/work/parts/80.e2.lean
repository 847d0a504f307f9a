/-! SCOPE'S BASE: which looks leave it alone -/
section YT
variable {G : xG} {d y pc len : Nat} {lv : xL} {st : List Value} {m : yM} {Q : Option Value → yM → Prop} {M : xM} {i : Instr}
/-- a step, taken back -/
theorem y_ts {pc' : Nat} {lv' : xL} {st' : List Value} {m' : yM} (hc : xcd y pc = some (i, len)) (hM : xms y = some M) (h1 : x_cl i = none) (h2 : x_ret i M.2.2.2.1 st = none) (h3 : x_mi i st = none)
    (h4 : ∀ ck cs, x_step G M.2.2.1 len pc i lv st (y_w m) ck cs = some (pc', lv', st', y_w m', ck, cs)) (k : yP G d y pc lv st m Q) : yP G d y pc' lv' st' m' Q := by
  obtain ⟨n, r, m2, hx, hq⟩ := k
  cases n with
  | zero => exact absurd (hx 0 0) (by unfold x_exec; intro z; cases z)
  | succ n =>
    refine ⟨n, r, m2, fun ck cs => ?_, hq⟩
    have := hx ck cs
    unfold x_exec at this
    rw [hc, hM] at this
    dsimp only at this
    rw [h1] at this
    dsimp only at this
    rw [h2] at this
    dsimp only at this
    rw [h3] at this
    dsimp only at this
    rw [h4] at this
    exact this
theorem y_gf' {k a ci : Nat} {ks : List Value} {v : Value} {rs : List Value} (hc : xcd y pc = some (.getfield k, len)) (hM : xms y = some M) (hs : ysh[a]? = some (.inr (ci, ks))) (hk : ci = k / 100) (hv : ks[k % 100]? = some v) (kk : yP G d y pc lv (.ref a :: rs) m Q) : yP G d y (pc + 3) lv (y_v m a (k % 100) v :: rs) m Q := by
  refine y_ts hc hM rfl rfl rfl (fun ck cs => ?_) kk
  show x_st pc 3 lv (y_w m) ck cs (x_gf (y_w m) k (.ref a :: rs)) = _
  have h1 : (y_w m)[a]? = some (y_c m a (.inr (ci, ks))) := y_get hs
  have h2 : (y_f m a 0 ks)[k % 100]? = some (y_v m a (k % 100) v) := by rw [y_f_get, hv, Nat.zero_add]; rfl
  unfold x_gf
  try dsimp only
  rw [h1]
  dsimp only [y_c]
  rw [if_pos hk, h2]
  rfl
theorem y_iald' {a n : Nat} {x : Int32} {rs : List Value} (hc : xcd y pc = some (.iaload, len)) (hM : xms y = some M) (hs : ysh[a]? = some (.inl (0, n))) (hi : x_in x n = true) (kk : yP G d y pc lv (.int x :: .ref a :: rs) m Q) : yP G d y (pc + 1) lv (.int (m.1 a x.toNatClampNeg) :: rs) m Q := by
  refine y_ts hc hM rfl rfl rfl (fun ck cs => ?_) kk
  show x_st pc 1 lv (y_w m) ck cs (x_ai G 0 0 .int (y_w m) (.int x :: .ref a :: rs)) = _
  have h1 : (y_w m)[a]? = some (y_c m a (.inl (0, n))) := y_get hs
  unfold x_ai
  try dsimp only
  rw [h1]
  dsimp only [y_c]
  rw [if_neg (by decide : ¬ (0 : Nat) = 1)]
  try dsimp only
  rw [if_pos ⟨Or.inl rfl, hi⟩]
  rfl
theorem y_tsw' {rs : List Value} {df lo hi : Int} {offs : Array Int} {x : Int32} {t : Nat} (hc : xcd y pc = some (.tableswitch df lo hi offs, len)) (hM : xms y = some M) (h : (if x.toInt < lo ∨ hi < x.toInt then x_to pc df else (match offs[(x.toInt - lo).toNat]? with
      | some off => x_to pc off
      | none => none)) = some t) (k : yP G d y pc lv (.int x :: rs) m Q) : yP G d y t lv rs m Q := by
  refine y_ts hc hM rfl rfl rfl (fun ck cs => ?_) k
  exact congrArg (x_jp lv rs (y_w m) ck cs) h
end YT
theorem st27 (xs : List Int32) : ∀ q, q ∈ (xg xs).1.1 → ¬ q.2.2.2 = .ref 27 := by
  intro q hq
  have hq : q ∈ xstv := hq
  unfold xstv at hq
  simp only [List.mem_cons, List.not_mem_nil, or_false] at hq
  rcases hq with e | e | e | e | e | e | e | e | e | e <;> (rw [e]; intro z; cases z)
theorem cd27a : ∀ y, y < 184 → n27 y = true → (xr y).all (fun l => l.all (fun e => okIn e.2.1)) = true := by decide +kernel
theorem cd27b : (xr 112).all (fun l => l.all (fun e => Nat.blt e.1 149 || (okIn e.2.1 && fwI e.2.1))) = true := by decide +kernel
theorem cd27 : ∀ y pc i len, gdP y pc → xcd y pc = some (i, len) → okIn i = true ∧ (y = 112 → fwI i = true) := by
  intro y pc i len hg hc
  unfold xcd at hc
  split at hc
  · rename_i l hl
    have hm := x_fd_mem hc
    have hlm := List.mem_of_getElem? hl
    rcases hg with h | ⟨rfl, h⟩
    · have y184 : y < 184 := by
        unfold n27 at h
        rw [Bool.or_eq_true, Bool.and_eq_true] at h
        rcases h with h | ⟨-, h⟩
        · have := Nat.eq_of_beq_eq_true h; omega
        · have := Nat.le_of_ble_eq_true h; omega
      have a := List.all_eq_true.mp (cd27a y y184 h) l hlm
      refine ⟨List.all_eq_true.mp a _ hm, fun e => ?_⟩
      rw [e] at h
      exact absurd h (by decide)
    · have a := List.all_eq_true.mp cd27b l hlm
      have b := List.all_eq_true.mp a _ hm
      rw [Bool.or_eq_true, Bool.and_eq_true] at b
      rcases b with b | ⟨b1, b2⟩
      · have := Nat.le_of_ble_eq_true b
        have : pc + 1 ≤ 149 := this
        omega
      · exact ⟨b1, fun _ => b2⟩
  · cases hc
def vB27 : Value → Nat → Bool
  | .ref k, n => !(Nat.beq k 27) || Nat.beq n 508
  | .retAddr k, _ => !(Nat.beq k 27)
  | _, _ => true
theorem sh27 : ysh.all (fun s => match s with | .inl _ => true | .inr q => (List.range q.2.length).all (fun i => vB27 (q.2.getD i .null) (q.1 * 100 + i))) = true := by decide +kernel
theorem w27 (m : yM) : wOk (y_w m) := by
  intro a ci fs q h1 h2
  have e : (y_w m)[a]? = (ysh[a]?).map (y_c m (0 + a)) := y_wl_get m ysh 0 a
  rw [e] at h1
  cases hs : ysh[a]? with
  | none => rw [hs] at h1; cases h1
  | some s =>
    rw [hs] at h1
    have h1 := Option.some.inj h1
    cases s with
    | inl p => cases h1
    | inr p =>
      have h1 := Sum.inr.inj h1
      have e1 : p.1 = ci := congrArg Prod.fst h1
      have e2 : y_f m (0 + a) 0 p.2 = fs := congrArg Prod.snd h1
      rw [← e2, y_f_get] at h2
      cases hk : p.2[q]? with
      | none => rw [hk] at h2; cases h2
      | some v =>
        rw [hk] at h2
        have h2 := Option.some.inj h2
        have ch := List.all_eq_true.mp sh27 _ (List.mem_of_getElem? hs)
        have ql := (List.getElem?_eq_some_iff.mp hk).1
        have cq := List.all_eq_true.mp ch q (List.mem_range.mpr ql)
        have gv : p.2.getD q .null = v := by rw [List.getD_eq_getElem?_getD, hk]; rfl
        rw [gv, e1] at cq
        cases v with
        | ref k =>
          have h2 : Value.ref k = Value.ref 27 := h2
          have ek : k = 27 := by simpa using h2
          rw [ek] at cq
          have cq : (!(Nat.beq 27 27) || Nat.beq (ci * 100 + q) 508) = true := cq
          have cq : Nat.beq (ci * 100 + q) 508 = true := by simpa using cq
          exact Nat.eq_of_beq_eq_true cq
        | retAddr k =>
          exfalso
          have h2 : (if m.1 (0 + a) (0 + q) = 0 then Value.null else Value.ref k) = Value.ref 27 := h2
          split at h2
          · cases h2
          · have ek : k = 27 := by simpa using h2
            rw [ek] at cq
            exact absurd cq Bool.false_ne_true
        | int _ => cases h2
        | long _ => cases h2
        | _ => cases h2
theorem yP.f27 {xs : List Int32} {d y pc : Nat} {lv : xL} {st : List Value} {m : yM} {Q : Option Value → yM → Prop} (hg : gdP y pc) (hs : oS st) (hl : oL lv) (h : yP (xg xs) d y pc lv st m Q) : yP (xg xs) d y pc lv st m (fun r m' => Q r m' ∧ m'.1 27 = m.1 27) := by
  obtain ⟨n, r, m', hx, hq⟩ := h
  refine ⟨n, r, m', hx, hq, ?_⟩
  have a : (y_w m)[27]? = some (y_c m 27 (.inl (0, 512))) := y_get rfl
  have b : (y_w m')[27]? = some (y_c m' 27 (.inl (0, 512))) := y_get rfl
  have c := (nt_exec (st27 xs) cd27 n d y pc lv st (y_w m) 0 0 r (y_w m') 0 0 hg (hx 0 0) hs hl (w27 m) ⟨_, a⟩).1
  rw [a, b] at c
  have c := Option.some.inj c
  unfold y_c at c
  dsimp only at c
  rw [if_neg (by decide), if_neg (by decide)] at c
  simp only [Sum.inl.injEq, Prod.mk.injEq, true_and] at c
  exact c
/-- a look at any node but the text -/
def tsB (k : Nat) : Bool := match (if (nI k).toInt < 0 ∨ 29 < (nI k).toInt then x_to 9 219 else (match (#[135, 140, 140, 140, 145, 151, 157, 163, 219, 169, 175, 219, 219, 219, 219, 219, 219, 219, 219, 219, 219, 219, 219, 181, 219, 187, 219, 219, 208, 214] : Array Int)[((nI k).toInt - 0).toNat]? with
      | some off => x_to 9 off
      | none => none)) with
  | some t => Nat.ble 149 t
  | none => false
theorem tsB_t : ∀ k, k < 37 → ¬ k = 0 → tsB k = true := by decide +kernel
theorem f112 {xs : List Int32} {d n k : Nat} {m : yM} {Q : Option Value → yM → Prop} (hn : n < 16401) (hk : m.1 3 n = nI k) (k37 : k < 37) (k0 : ¬ k = 0) (h : yC (xg xs) (d + 1) 112 [.ref 31, .int (nI n)] m Q) : yC (xg xs) (d + 1) 112 [.ref 31, .int (nI n)] m (fun r m' => Q r m' ∧ m'.1 27 = m.1 27) := by
  have h1 : yP (xg xs) (d + 1) 112 1 [(0, .ref 31), (1, .int (nI n))] [.ref 31] m Q := y_ts rfl rfl rfl rfl rfl (fun _ _ => rfl) h
  have h2 : yP (xg xs) (d + 1) 112 4 [(0, .ref 31), (1, .int (nI n))] [.ref 2] m Q := y_gf' (k := 603) (v := .ref 2) rfl rfl rfl rfl rfl h1
  have h3 : yP (xg xs) (d + 1) 112 7 [(0, .ref 31), (1, .int (nI n))] [.ref 3] m Q := y_gf' (k := 100) (v := .ref 3) rfl rfl rfl rfl rfl h2
  have h4 : yP (xg xs) (d + 1) 112 8 [(0, .ref 31), (1, .int (nI n))] [.int (nI n), .ref 3] m Q := y_ts rfl rfl rfl rfl rfl (fun _ _ => rfl) h3
  have h5 : yP (xg xs) (d + 1) 112 9 [(0, .ref 31), (1, .int (nI n))] [.int (m.1 3 (nI n).toNatClampNeg)] m Q := y_iald' rfl rfl rfl (x_in_nI hn (by decide)) h4
  rw [nI_clamp (by omega), hk] at h5
  have tb := tsB_t k k37 k0
  unfold tsB at tb
  split at tb
  · rename_i t ht
    have h6 := y_tsw' rfl rfl ht h5
    have h7 := yP.f27 (Or.inr ⟨rfl, Nat.le_of_ble_eq_true tb⟩) (fun v hv => by cases hv) (fun e he => by
      simp only [List.mem_cons, List.not_mem_nil, or_false] at he
      rcases he with e | e <;> (rw [e]; intro z; cases z)) h6
    refine y_st rfl rfl rfl rfl rfl (fun _ _ => rfl) ?_
    refine y_gf (k := 603) (v := .ref 2) rfl rfl rfl rfl rfl ?_
    refine y_gf (k := 100) (v := .ref 3) rfl rfl rfl rfl rfl ?_
    refine y_st rfl rfl rfl rfl rfl (fun _ _ => rfl) ?_
    show yP (xg xs) (d + 1) 112 8 [(0, .ref 31), (1, .int (nI n))] [.int (nI n), .ref 3] m _
    refine y_iald rfl rfl rfl (x_in_nI hn (by decide)) ?_
    rw [nI_clamp (by omega), hk]
    exact y_tsw rfl rfl ht h7
  · cases tb
