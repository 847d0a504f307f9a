/-! THE READER ENDS: with turns enough the pure reader has an answer -/
def tt (T t k : Nat) (r : Option PX) : Prop := ∃ X, r = some X ∧ ∀ t' o' G, X = .inl (t', o', G) → t + k ≤ t' ∧ t' ≤ T
theorem tt.pp {T t k k' : Nat} {r : Option PX} {f : Nat → Nat → Option PX} (h : tt T t k r) (hf : ∀ t1 o1, t + k ≤ t1 → t1 ≤ T → tt T t1 k' (f t1 o1)) : tt T t (k + k') (po r f) := by
  obtain ⟨X, rfl, hX⟩ := h
  rcases X with ⟨t1, o1, G1⟩ | e
  · obtain ⟨h1, h2⟩ := hX t1 o1 G1 rfl
    obtain ⟨Y, e1, hY⟩ := hf t1 o1 h1 h2
    refine ⟨aft G1 Y, po_li e1, fun t' o' G u => ?_⟩
    obtain ⟨G2, u2, -⟩ := aft_il u
    have := hY t' o' G2 u2
    omega
  · exact ⟨.inr e, rfl, fun _ _ _ u => by cases u⟩
theorem tt.node {T t k : Nat} {r : Option PX} (h : tt T t k r) (a p v : Int32) (vt : Nat) : tt T t k (pnode a p v vt r) := by
  obtain ⟨X, rfl, hX⟩ := h
  refine ⟨p_node a p v vt X, rfl, fun t' o' G u => ?_⟩
  obtain ⟨G1, u1, -⟩ := p_node_o u
  exact hX t' o' G1 u1
theorem tt.s {T t k s b : Nat} {X : PX} (h : mv T t k s b X) (ht : t ≤ T) : tt T t k (some X) := ⟨X, rfl, fun t' o' G u => by have := h ht t' o' G u; omega⟩
theorem tt.w {T t k k' : Nat} {r : Option PX} (h : tt T t k r) (hk : k' ≤ k) : tt T t k' r := by
  obtain ⟨X, e, hX⟩ := h
  exact ⟨X, e, fun t' o' G u => by have := hX t' o' G u; omega⟩
theorem tt.u {T t o : Nat} (ht : t ≤ T) : tt T t 0 (some (.inl (t, o, []))) := ⟨_, rfl, fun t' o' G u => by
  simp only [Sum.inl.injEq, Prod.mk.injEq] at u
  omega⟩
theorem tt.dec {T t o : Nat} (ht : t ≤ T) : tt T t 0 (pdec t o) := ⟨_, rfl, fun t' o' G u => by
  simp only [Sum.inl.injEq, Prod.mk.injEq] at u
  omega⟩
theorem tt.e {T t k : Nat} (e : Int32 × Int32) : tt T t k (some (.inr e)) := ⟨_, rfl, fun _ _ _ u => by cases u⟩
def TR (T N : Nat) (rc : ER) : Prop := (∀ c q L t o, t ≤ T → 4 * (T - t) + 1 ≤ N → tt T t 1 (rc 0 c q L t o)) ∧ (∀ c q L t o, 0 ≤ c → t ≤ T → 4 * (T - t) + 2 ≤ N → tt T t 1 (rc 1 c q L t o)) ∧ (∀ c q L t o, 0 ≤ c → t ≤ T → 4 * (T - t) + 1 ≤ N → tt T t 0 (rc 2 c q L t o)) ∧ (∀ c q L t o, t ≤ T → 4 * (T - t) + 3 ≤ N → tt T t 0 (rc 3 c q L t o))
theorem tt.step {m0 : yM} {T t o k : Nat} {f : Nat → Nat → Option PX} (hT : TKok m0 T) (ht : t ≤ T) (hk : gk (m0.1 9 t)) (hf : t + 1 ≤ T → tt T (t + 1) k (f (t + 1) o)) : tt T t (k + 1) (po (some (p_step m0 t o)) f) := by
  have lt := ltT hT ht hk
  unfold p_step
  split
  · exact tt.e _
  · rw [po_inl]
    obtain ⟨X, e, hX⟩ := hf lt
    exact ⟨X, e, fun t' o' G u => by have := hX t' o' G u; omega⟩
theorem tt.into {m0 : yM} {T t o k : Nat} {f : Nat → Nat → Option PX} (hT : TKok m0 T) (ht : t ≤ T) (hk : gk (m0.1 9 t)) (hf : t + 1 ≤ T → tt T (t + 1) k (f (t + 1) (o + 1))) : tt T t (k + 1) (po (some (p_into m0 t o)) f) := by
  unfold p_into
  split
  · exact tt.step hT ht hk hf
  · exact tt.e _
theorem tt.exp {m0 : yM} {T t o k : Nat} {c : Int32} {f : Nat → Nat → Option PX} (hT : TKok m0 T) (ht : t ≤ T) (hk : gk c) (hf : t + 1 ≤ T → tt T (t + 1) k (f (t + 1) o)) : tt T t (k + 1) (po (some (p_exp m0 c t o)) f) := by
  unfold p_exp
  split
  · rename_i z
    exact tt.step hT ht (by rw [z]; exact hk) hf
  · exact tt.e _
theorem TNm {m0 : yM} {T N : Nat} (hT : TKok m0 T) {rc : ER} (h : TR T N rc) {t o : Nat} (ht : t ≤ T) (hN : 4 * (T - t) + 1 ≤ N + 1) (h64 : m0.1 9 t = 64) : tt T t 1 (pNm m0 rc t o) := by
  obtain ⟨h0, h1, h2, h3⟩ := h
  have g64 : gk (m0.1 9 t) := by rw [h64]; decide
  unfold pNm
  split
  · rename_i z
    refine tt.node ?_ _ _ _ _
    refine tt.w (tt.step (k := 1) hT ht g64 (fun b1 => ?_)) (by omega)
    refine tt.into (k := 0) hT b1 (by rw [z]; decide) (fun b2 => ?_)
    refine tt.w (tt.pp (k' := 0) (h3 0 0 [] _ _ b2 (by omega)) (fun t3 o3 a3 b3 => ?_)) (by omega)
    exact tt.w (tt.exp (k := 0) hT b3 (by decide) (fun b4 => tt.dec b4)) (by omega)
  · split
    · rename_i z
      refine tt.node ?_ _ _ _ _
      refine tt.w (tt.step (k := 1) hT ht g64 (fun b1 => ?_)) (by omega)
      refine tt.step (k := 0) hT b1 (by rw [z]; decide) (fun b2 => ?_)
      exact tt.w (tt.s (mv.leaf hT (by decide)) b2) (by omega)
    · split
      · rename_i z
        refine tt.node ?_ _ _ _ _
        refine tt.w (tt.step (k := 1) hT ht g64 (fun b1 => ?_)) (by omega)
        refine tt.into (k := 0) hT b1 (by rw [z]; decide) (fun b2 => ?_)
        refine tt.w (tt.pp (k' := 0) (h1 0 0 [] _ _ (by decide) b2 (by omega)) (fun t3 o3 a3 b3 => ?_)) (by omega)
        exact tt.w (tt.exp (k := 0) hT b3 (by decide) (fun b4 => tt.dec b4)) (by omega)
      · refine tt.node ?_ _ _ _ _
        exact tt.s (mv.step hT g64) ht
theorem TE {m0 : yM} {T N : Nat} (hT : TKok m0 T) {rc : ER} (h : TR T N rc) : TR T (N + 1) (pE m0 rc) := by
  have hh := h
  obtain ⟨h0, h1, h2, h3⟩ := h
  refine ⟨fun c q L t o ht hN => ?_, fun c q L t o hc ht hN => ?_, fun c q L t o hc ht hN => ?_, fun c q L t o ht hN => ?_⟩
  · show tt T t 1 (if m0.1 9 t = 34 ∨ m0.1 9 t = 173 then _ else if m0.1 9 t = 168 then _ else if m0.1 9 t = 65 then _ else if m0.1 9 t = 35 then _ else if m0.1 9 t = 36 then _ else if m0.1 9 t = 64 then _ else _)
    split
    · rename_i z
      refine tt.node ?_ _ _ _ _
      refine tt.into (k := 0) hT ht (by rcases z with z | z <;> rw [z] <;> decide) (fun b1 => ?_)
      exact tt.w (tt.pp (k' := 0) (h0 0 0 [] _ _ b1 (by omega)) (fun t1 o1 _ b2 => tt.dec b2)) (by omega)
    · split
      · rename_i z
        refine tt.into (k := 0) hT ht (by rw [z]; decide) (fun b1 => ?_)
        refine tt.w (tt.pp (k' := 0) (h1 0 0 [] _ _ (by decide) b1 (by omega)) (fun t3 o3 a3 b3 => ?_)) (by omega)
        exact tt.w (tt.exp (k := 0) hT b3 (by decide) (fun b4 => tt.dec b4)) (by omega)
      · split
        · exact tt.s (mv.leaf hT (by decide)) ht
        · split
          · exact tt.s (mv.leaf hT (by decide)) ht
          · split
            · exact tt.s (mv.leaf hT (by decide)) ht
            · split
              · rename_i z
                exact TNm hT hh ht (by omega) z
              · exact tt.e _
  · show tt T t 1 (match rc 0 0 0 [] t o with | none => none | some (.inr e) => some (.inr e) | some (.inl (t1, o1, G)) => rc 2 c 0 G t1 o1)
    obtain ⟨X, e, hX⟩ := h0 0 0 [] t o ht (by omega)
    rw [e]
    rcases X with ⟨t1, o1, G1⟩ | e1
    · obtain ⟨a1, a2⟩ := hX t1 o1 G1 rfl
      obtain ⟨Y, e2, hY⟩ := h2 c 0 G1 t1 o1 hc a2 (by omega)
      exact ⟨Y, e2, fun t' o' G u => by have := hY t' o' G u; omega⟩
    · exact tt.e _
  · show tt T t 0 (if 60 < q ∨ clO (opO (m0.1 9 t)) < c then some (.inl (t, o, L)) else match p_into m0 t o with | .inr e => some (.inr e) | .inl (t1, o1, _) => match rc 1 (clO (opO (m0.1 9 t)) + 1) 0 [] t1 o1 with | none => none | some (.inr e) => some (.inr e) | some (.inl (t2, o2, R)) => rc 2 c (q + 1) ((35, m0.1 10 t, opO (m0.1 9 t), 0, L.length + R.length + 1) :: (L ++ R)) t2 o2)
    split
    · exact ⟨_, rfl, fun t' o' G u => by
        simp only [Sum.inl.injEq, Prod.mk.injEq] at u
        omega⟩
    · rename_i z
      have nc : ¬ clO (opO (m0.1 9 t)) < 0 := fun w => z (Or.inr (Int32.lt_of_lt_of_le w hc))
      have lt := ltT hT ht (cl_lt nc)
      rcases hi : p_into m0 t o with ⟨t1, o1, G1⟩ | e1
      · dsimp only
        have p1 := p_into_o hi
        obtain ⟨X, e, hX⟩ := h1 _ 0 [] t1 o1 (cl_s nc) (by omega) (by omega)
        rw [e]
        rcases X with ⟨t2, o2, R⟩ | e2
        · obtain ⟨a1, a2⟩ := hX t2 o2 R rfl
          obtain ⟨Y, e3, hY⟩ := h2 c (q + 1) ((35, m0.1 10 t, opO (m0.1 9 t), 0, L.length + R.length + 1) :: (L ++ R)) t2 o2 hc a2 (by omega)
          exact ⟨Y, e3, fun t' o' G u => by have := hY t' o' G u; omega⟩
        · exact tt.e _
      · exact tt.e _
  · show tt T t 0 (if 8192 ≤ q ∨ m0.1 9 t = 169 then some (.inl (t, o, [])) else po (some (if q = 0 then .inl (t, o, []) else p_exp m0 172 t o)) (fun t o => po (rc 1 0 0 [] t o) (fun t o => rc 3 0 (q + 1) [] t o)))
    split
    · exact tt.u ht
    · have go : ∀ t1 o1, t ≤ t1 → t1 ≤ T → tt T t1 0 (po (rc 1 0 0 [] t1 o1) (fun t o => rc 3 0 (q + 1) [] t o)) := fun t1 o1 a b => tt.w (tt.pp (k' := 0) (h1 0 0 [] t1 o1 (by decide) b (by omega)) (fun t2 o2 a2 b2 => h3 0 (q + 1) [] t2 o2 b2 (by omega))) (by omega)
      split
      · rw [po_inl]
        exact go t o (by omega) ht
      · exact tt.w (tt.exp (k := 0) hT ht (by decide) (fun b => go _ _ (by omega) b)) (by omega)
theorem TRR {m0 : yM} {T : Nat} (hT : TKok m0 T) : ∀ N, TR T N (pR m0 N)
  | 0 => ⟨fun _ _ _ _ _ _ h => by omega, fun _ _ _ _ _ _ _ h => by omega, fun _ _ _ _ _ _ _ h => by omega, fun _ _ _ _ _ _ h => by omega⟩
  | N + 1 => TE hT (TRR hT N)
theorem tt.ex {m0 : yM} {T N t o : Nat} (hT : TKok m0 T) (hN : 4 * T + 2 ≤ N) (ht : t ≤ T) : tt T t 1 (exO m0 N t o) := by
  obtain ⟨X, e, hX⟩ := (TRR hT N).2.1 0 0 [] t o (by decide) ht (by omega)
  unfold exO
  rw [e]
  refine ⟨rst o X, rfl, fun t' o' G u => ?_⟩
  rcases X with ⟨t1, o1, G1⟩ | e
  · simp only [rst, Sum.inl.injEq, Prod.mk.injEq] at u
    have := hX t1 o1 G1 rfl
    omega
  · simp [rst] at u
theorem tt.tgt {m0 : yM} {T N t o : Nat} (hT : TKok m0 T) (hN : 4 * T + 2 ≤ N) (ht : t ≤ T) (h64 : m0.1 9 t = 64) : tt T t 1 (p_tgt m0 N t o) := by
  have g64 : gk (m0.1 9 t) := by rw [h64]; decide
  unfold p_tgt
  split
  · rename_i z
    refine tt.node ?_ _ _ _ _
    refine tt.w (tt.step (k := 1) hT ht g64 (fun b1 => ?_)) (by omega)
    refine tt.into (k := 0) hT b1 (by rw [z]; decide) (fun b2 => ?_)
    refine tt.w (tt.pp (k' := 0) (tt.ex hT hN b2) (fun t3 o3 a3 b3 => ?_)) (by omega)
    exact tt.w (tt.exp (k := 0) hT b3 (by decide) (fun b4 => tt.dec b4)) (by omega)
  · exact tt.s (mv.leaf hT (by decide)) ht
theorem tt.asgn {m0 : yM} {T N t o : Nat} (hT : TKok m0 T) (hN : 4 * T + 2 ≤ N) (ht : t ≤ T) (h64 : m0.1 9 t = 64) : tt T t 1 (p_asgn m0 N t o) := by
  obtain ⟨X, e, hX⟩ := tt.tgt (o := o) hT hN ht h64
  unfold p_asgn
  rw [e]
  rcases X with ⟨t1, o1, G1⟩ | e1
  · obtain ⟨a1, a2⟩ := hX t1 o1 G1 rfl
    dsimp only
    refine tt.node ?_ _ _ _ _
    obtain ⟨Y, e2, hY⟩ := tt.exp (k := 1) (o := o1) (c := 70) hT a2 (by decide) (fun b => tt.ex hT hN b)
    rw [e2]
    refine ⟨aft G1 Y, rfl, fun t' o' G u => ?_⟩
    obtain ⟨G2, u2, -⟩ := aft_il u
    have := hY t' o' G2 u2
    omega
  · exact tt.e _
theorem tt.par1 {m0 : yM} {T N t o : Nat} (hT : TKok m0 T) (hN : 4 * T + 2 ≤ N) (ht : t ≤ T) : tt T t 1 (p_par1 m0 N t o) := by
  unfold p_par1
  refine tt.node ?_ _ _ _ _
  refine tt.w (tt.exp (k := 1) hT ht (by decide) (fun b1 => ?_)) (by omega)
  exact tt.w (tt.exp (k := 1) hT b1 (by decide) (fun b2 => tt.ex hT hN b2)) (by omega)
theorem tt.par {m0 : yM} {T N : Nat} (hT : TKok m0 T) (hN : 4 * T + 2 ≤ N) : ∀ n t o, t ≤ T → tt T t 0 (p_par m0 N n t o)
  | 0, t, o, ht => tt.u ht
  | n + 1, t, o, ht => by
    rw [p_par_s]
    have go : ∀ t1 o1, t1 ≤ T → tt T t1 0 (po (p_par1 m0 N t1 o1) (p_par m0 N n)) := fun t1 o1 b => tt.w (tt.pp (k' := 0) (tt.par1 hT hN b) (fun t2 o2 a2 b2 => tt.par hT hN n t2 o2 b2)) (by omega)
    split
    · exact tt.u ht
    · split
      · rw [po_inl]
        exact go t o ht
      · exact tt.w (tt.exp (k := 0) hT ht (by decide) (fun b => go _ _ b)) (by omega)
theorem tt.inv {m0 : yM} {T N t o : Nat} (hT : TKok m0 T) (hN : 4 * T + 2 ≤ N) (ht : t ≤ T) (h64 : m0.1 9 t = 64) (z : m0.1 9 (t + 1) = 168) : tt T t 1 (p_inv m0 N t o) := by
  unfold p_inv
  refine tt.node ?_ _ _ _ _
  refine tt.w (tt.step (k := 1) hT ht (by rw [h64]; decide) (fun b1 => ?_)) (by omega)
  refine tt.into (k := 0) hT b1 (by rw [z]; decide) (fun b2 => ?_)
  refine tt.w (tt.pp (k' := 0) (tt.par hT hN 8192 _ _ b2) (fun t3 o3 a3 b3 => ?_)) (by omega)
  exact tt.w (tt.exp (k := 0) hT b3 (by decide) (fun b4 => tt.dec b4)) (by omega)
def TS (m0 : yM) (T n : Nat) (rc : SR) : Prop := (∀ t o, t ≤ T → 4 * (T - t) + 4 ≤ n → tt T t 0 (rc 0 0 t o)) ∧ (∀ q t o, t ≤ T → 4 * (T - t) + 3 ≤ n → tt T t 0 (rc 1 q t o)) ∧ (∀ t o, t ≤ T → stS (m0.1 9 t) → 4 * (T - t) + 2 ≤ n → tt T t 1 (rc 2 0 t o)) ∧ (∀ t o, t ≤ T → m0.1 9 t = 16 → 4 * (T - t) + 1 ≤ n → tt T t 1 (rc 3 0 t o)) ∧ (∀ q t o, t ≤ T → 4 * (T - t) + 1 ≤ n → tt T t 0 (rc 4 q t o)) ∧ (∀ t o, t ≤ T → m0.1 9 t = 21 → 4 * (T - t) + 1 ≤ n → tt T t 1 (rc 5 0 t o)) ∧ (∀ q t o, t ≤ T → 4 * (T - t) + 1 ≤ n → tt T t 0 (rc 6 q t o)) ∧ (∀ t o, t ≤ T → m0.1 9 t = 23 → 4 * (T - t) + 1 ≤ n → tt T t 1 (rc 7 0 t o))
theorem tt.els {m0 : yM} {T n t o : Nat} (hT : TKok m0 T) {rc : SR} (h : TS m0 T n rc) (ht : t ≤ T) (hn : 4 * (T - t) + 4 ≤ n) : tt T t 0 (p_else m0 rc t o) := by
  unfold p_else
  split
  · rename_i z
    exact tt.w (tt.step (k := 0) hT ht (by rw [z]; decide) (fun b => h.1 _ _ b (by omega))) (by omega)
  · exact tt.u ht
theorem TSs {m0 : yM} {T N n : Nat} (hT : TKok m0 T) (hN : 4 * T + 2 ≤ N) {rc : SR} (h : TS m0 T n rc) : TS m0 T (n + 1) (pS m0 N rc) := by
  have hh := h
  obtain ⟨h0, h1, h2, h3, h4, h5, h6, h7⟩ := h
  refine ⟨fun t o ht hn => ?_, fun q t o ht hn => ?_, fun t o ht hs hn => ?_, fun t o ht hk hn => ?_, fun q t o ht hn => ?_, fun t o ht hk hn => ?_, fun q t o ht hn => ?_, fun t o ht hk hn => ?_⟩
  · exact tt.node (h1 8192 t o ht (by omega)) _ _ _ _
  · show tt T t 0 (if q = 0 then unit_ t o else if stS (m0.1 9 t) then po (rc 2 0 t o) (rc 1 (q - 1)) else unit_ t o)
    split
    · exact tt.u ht
    · split
      · rename_i s
        exact tt.w (tt.pp (k' := 0) (h2 t o ht s (by omega)) (fun t1 o1 a1 b1 => h1 _ t1 o1 b1 (by omega))) (by omega)
      · exact tt.u ht
  · show tt T t 1 (po (p_st m0 N rc t o) (fun t o => some (p_exp m0 187 t o)))
    have st : tt T t 0 (p_st m0 N rc t o) := by
      unfold p_st
      split
      · rename_i z
        exact tt.w (h3 t o ht z (by omega)) (by omega)
      · split
        · rename_i z
          exact tt.w (h5 t o ht z (by omega)) (by omega)
        · split
          · rename_i z
            exact tt.w (h7 t o ht z (by omega)) (by omega)
          · split
            · exact tt.w (tt.s (mv.leaf hT (by decide)) ht) (by omega)
            · split
              · exact tt.w (tt.s (mv.leaf hT (by decide)) ht) (by omega)
              · split
                · rename_i z
                  split
                  · rename_i y
                    exact tt.w (tt.inv hT hN ht z y) (by omega)
                  · exact tt.w (tt.asgn hT hN ht z) (by omega)
                · exact tt.u ht
    exact tt.w (tt.pp (k' := 1) st (fun t1 o1 a1 b1 => tt.s (mv.exp hT (by decide)) b1)) (by omega)
  · show tt T t 1 (pnode 15 (m0.1 10 t) 0 0 (po (po (po (po (po (po (po (some (p_into m0 t o)) (exO m0 N)) (fun t o => some (p_exp m0 17 t o))) (rc 0 0)) (rc 4 8192)) (p_else m0 rc)) (fun t o => some (p_exp m0 20 t o))) pdec))
    refine tt.node ?_ _ _ _ _
    have s1 : tt T t 2 (po (some (p_into m0 t o)) (exO m0 N)) := tt.into (k := 1) hT ht (by rw [hk]; decide) (fun b => tt.ex hT hN b)
    have s2 := s1.pp (k' := 1) (f := fun t o => some (p_exp m0 17 t o)) (fun t1 o1 a1 b1 => tt.s (mv.exp hT (by decide)) b1)
    have s3 := s2.pp (k' := 0) (f := rc 0 0) (fun t1 o1 a1 b1 => h0 t1 o1 b1 (by omega))
    have s4 := s3.pp (k' := 0) (f := rc 4 8192) (fun t1 o1 a1 b1 => h4 _ t1 o1 b1 (by omega))
    have s5 := s4.pp (k' := 0) (f := p_else m0 rc) (fun t1 o1 a1 b1 => tt.els hT hh b1 (by omega))
    have s6 := s5.pp (k' := 1) (f := fun t o => some (p_exp m0 20 t o)) (fun t1 o1 a1 b1 => tt.s (mv.exp hT (by decide)) b1)
    exact tt.w (s6.pp (k' := 0) (f := pdec) (fun t1 o1 a1 b1 => tt.dec b1)) (by omega)
  · show tt T t 0 (if q = 0 then unit_ t o else if m0.1 9 t = 18 then po (po (po (po (some (p_step m0 t o)) (exO m0 N)) (fun t o => some (p_exp m0 17 t o))) (rc 0 0)) (rc 4 (q - 1)) else unit_ t o)
    split
    · exact tt.u ht
    · split
      · rename_i z
        have s1 : tt T t 2 (po (some (p_step m0 t o)) (exO m0 N)) := tt.step (k := 1) hT ht (by rw [z]; decide) (fun b => tt.ex hT hN b)
        have s2 := s1.pp (k' := 1) (f := fun t o => some (p_exp m0 17 t o)) (fun t1 o1 a1 b1 => tt.s (mv.exp hT (by decide)) b1)
        have s3 := s2.pp (k' := 0) (f := rc 0 0) (fun t1 o1 a1 b1 => h0 t1 o1 b1 (by omega))
        exact tt.w (s3.pp (k' := 0) (f := rc 4 (q - 1)) (fun t1 o1 a1 b1 => h4 _ t1 o1 b1 (by omega))) (by omega)
      · exact tt.u ht
  · show tt T t 1 (pnode 16 (m0.1 10 t) 0 0 (po (po (po (po (po (po (some (p_into m0 t o)) (exO m0 N)) (fun t o => some (p_exp m0 15 t o))) (rc 6 8192)) (p_else m0 rc)) (fun t o => some (p_exp m0 22 t o))) pdec))
    refine tt.node ?_ _ _ _ _
    have s1 : tt T t 2 (po (some (p_into m0 t o)) (exO m0 N)) := tt.into (k := 1) hT ht (by rw [hk]; decide) (fun b => tt.ex hT hN b)
    have s2 := s1.pp (k' := 1) (f := fun t o => some (p_exp m0 15 t o)) (fun t1 o1 a1 b1 => tt.s (mv.exp hT (by decide)) b1)
    have s4 := s2.pp (k' := 0) (f := rc 6 8192) (fun t1 o1 a1 b1 => h6 _ t1 o1 b1 (by omega))
    have s5 := s4.pp (k' := 0) (f := p_else m0 rc) (fun t1 o1 a1 b1 => tt.els hT hh b1 (by omega))
    have s6 := s5.pp (k' := 1) (f := fun t o => some (p_exp m0 22 t o)) (fun t1 o1 a1 b1 => tt.s (mv.exp hT (by decide)) b1)
    exact tt.w (s6.pp (k' := 0) (f := pdec) (fun t1 o1 a1 b1 => tt.dec b1)) (by omega)
  · show tt T t 0 (if q = 0 then unit_ t o else if stC (m0.1 9 t) then po (pnode 17 (m0.1 10 t) 0 0 (po (po (some (p_rng m0 8192 t o)) (fun t o => some (p_exp m0 186 t o))) (rc 0 0))) (rc 6 (q - 1)) else unit_ t o)
    split
    · exact tt.u ht
    · split
      · rename_i s
        have s1 : tt T t 1 (some (p_rng m0 8192 t o)) := tt.s ((mv.rng hT 8191 t o).2) ht
        have s2 := s1.pp (k' := 1) (f := fun t o => some (p_exp m0 186 t o)) (fun t1 o1 a1 b1 => tt.s (mv.exp hT (by decide)) b1)
        have s3 := s2.pp (k' := 0) (f := rc 0 0) (fun t1 o1 a1 b1 => h0 t1 o1 b1 (by omega))
        exact tt.w ((s3.node _ _ _ _).pp (k' := 0) (f := rc 6 (q - 1)) (fun t1 o1 a1 b1 => h6 _ t1 o1 b1 (by omega))) (by omega)
      · exact tt.u ht
  · show tt T t 1 (match p_into m0 t o with
      | .inr e => some (.inr e)
      | .inl (t1, o1, _) => pnode 19 (m0.1 10 t) (m0.1 11 t1) (t1 + 1) (po (po (po (some (p_bind (p_bind (p_bind (p_bind (p_bind (p_bind (p_exp m0 64 t1 o1) (p_exp m0 70)) (p_const m0)) (p_exp m0 24)) (p_const m0)) (p_if m0 25 (fun t o => p_bind (p_step m0 t o) (p_const m0)))) (p_exp m0 26))) (rc 0 0)) (fun t o => some (p_exp m0 27 t o))) pdec))
    rcases hi : p_into m0 t o with ⟨t1, o1, G1⟩ | e1
    · dsimp only
      have a := mv.into (o := o) hT (show gk (m0.1 9 t) by rw [hk]; decide) ht _ _ _ hi
      have b1 : t1 ≤ T := by omega
      have s1 : tt T t1 1 (some (p_bind (p_bind (p_bind (p_bind (p_bind (p_bind (p_exp m0 64 t1 o1) (p_exp m0 70)) (p_const m0)) (p_exp m0 24)) (p_const m0)) (p_if m0 25 (fun t o => p_bind (p_step m0 t o) (p_const m0)))) (p_exp m0 26))) := by
        have m1 := mv.bind (mv.bind (mv.bind (mv.bind (mv.bind (mv.bind (mv.exp (o := o1) (t := t1) (k := 64) hT (by decide)) (fun t o => mv.exp (o := o) (k := 70) hT (by decide))) (fun t o => mv.const (o := o) hT)) (fun t o => mv.exp (o := o) (k := 24) hT (by decide))) (fun t o => mv.const (o := o) hT)) (fun t o => mv.pif (k := 1) (o := o) (c := 25) (f := fun t o => p_bind (p_step m0 t o) (p_const m0)) (fun z => mv.w (mv.bind (mv.step (o := o) hT (by rw [z]; decide)) (fun t o => mv.const (o := o) hT))))) (fun t o => mv.exp (o := o) (k := 26) hT (by decide))
        exact tt.w (tt.s m1 b1) (by omega)
      have s2 := s1.pp (k' := 0) (f := rc 0 0) (fun t1 o1 a1 b1 => h0 t1 o1 b1 (by omega))
      have s3 := s2.pp (k' := 1) (f := fun t o => some (p_exp m0 27 t o)) (fun t1 o1 a1 b1 => tt.s (mv.exp hT (by decide)) b1)
      have s4 := (s3.pp (k' := 0) (f := pdec) (fun t1 o1 a1 b1 => tt.dec b1)).node 19 (m0.1 10 t) (m0.1 11 t1) (t1 + 1)
      obtain ⟨X, e, hX⟩ := s4
      exact ⟨X, e, fun t' o' G u => by have := hX t' o' G u; omega⟩
    · exact tt.e _
theorem TSS {m0 : yM} {T N : Nat} (hT : TKok m0 T) (hN : 4 * T + 2 ≤ N) : ∀ n, TS m0 T n (pT m0 N n)
  | 0 => ⟨fun _ _ _ h => by omega, fun _ _ _ _ h => by omega, fun _ _ _ _ h => by omega, fun _ _ _ _ h => by omega, fun _ _ _ _ h => by omega, fun _ _ _ _ h => by omega, fun _ _ _ _ h => by omega, fun _ _ _ _ h => by omega⟩
  | n + 1 => TSs hT hN (TSS hT hN n)
theorem tt.bdy {m0 : yM} {T N n t o : Nat} (hT : TKok m0 T) (hN : 4 * T + 2 ≤ N) (hn : 4 * T + 4 ≤ n) (ht : t ≤ T) : tt T t 0 (p_bdy m0 N n t o) := by
  unfold p_bdy
  split
  · rename_i z
    exact tt.w (tt.s (mv.lad hT (by rw [z]; decide)) ht) (by omega)
  · exact (TSS hT hN n).1 t o ht (by omega)
theorem tt.blk {m0 : yM} {T N n t o : Nat} (hT : TKok m0 T) (hN : 4 * T + 2 ≤ N) (hn : 4 * T + 4 ≤ n) (ht : t ≤ T) (hw : bkW (m0.1 9 t)) : tt T t 1 (p_blk m0 N n t o) := by
  unfold p_blk
  rcases hi : p_step m0 t o with ⟨t1, o1, G1⟩ | e1
  · dsimp only
    have a := mv.step (o := o) hT (bkW_gk hw).1 ht _ _ _ hi
    have b1 : t1 ≤ T := by omega
    have m1 := mv.bind (mv.bind (mv.exp (o := o1) (t := t1) (k := 64) hT (by decide)) (fun t' o => mv.hd (o := o) hT (m0.1 9 t))) (fun t o => mv.sects hT 8192 t o)
    have s1 := tt.s m1 b1
    have s2 := s1.pp (k' := 0) (f := p_bdy m0 N n) (fun t1 o1 a1 b1 => tt.bdy hT hN hn b1)
    have s3 := (s2.pp (k' := 1) (f := fun t' o' => some (p_exp m0 (m0.1 9 t + 1) t' o')) (fun t1 o1 a1 b1 => tt.s (mv.exp hT (bkW_gk hw).2) b1)).node (1 + (m0.1 9 t - 0) / 2) (m0.1 10 t) (m0.1 11 t1) (t1 + 1)
    obtain ⟨X, e, hX⟩ := s3
    exact ⟨X, e, fun t' o' G u => by have := hX t' o' G u; omega⟩
  · exact tt.e _
theorem tt.blks {m0 : yM} {T N n : Nat} (hT : TKok m0 T) (hN : 4 * T + 2 ≤ N) (hn : 4 * T + 4 ≤ n) : ∀ q t o, t ≤ T → tt T t 0 (p_blks m0 N n q t o)
  | 0, t, o, ht => tt.u ht
  | q + 1, t, o, ht => by
    rw [p_blks_s]
    split
    · rename_i b
      exact tt.w (tt.pp (k' := 0) (tt.blk hT hN hn ht b) (fun t1 o1 a1 b1 => tt.blks hT hN hn q t1 o1 b1)) (by omega)
    · exact tt.u ht
theorem p_text_ex {m0 : yM} {T : Nat} (hT : TKok m0 T) : ∃ N n r, p_text m0 N n = some r := by
  refine ⟨4 * T + 2, 4 * T + 4, ?_⟩
  have s0 : tt T 0 0 (some (p_beg m0)) := by
    unfold p_beg
    split
    · exact tt.e _
    · exact tt.u (Nat.zero_le _)
  have s1 := s0.pp (k' := 0) (f := p_blks m0 (4 * T + 2) (4 * T + 4) 8192) (fun t1 o1 a1 b1 => tt.blks hT (Nat.le_refl _) (Nat.le_refl _) 8192 t1 o1 b1)
  have s2 := s1.pp (k' := 0) (f := fun t o => some (p_end m0 t o)) (fun t1 o1 a1 b1 => by
    show tt T t1 0 (some (p_end m0 t1 o1))
    unfold p_end
    split
    · exact tt.u b1
    · exact tt.e _)
  obtain ⟨X, e, -⟩ := s2.node 0 0 0 0
  exact ⟨X, e⟩
