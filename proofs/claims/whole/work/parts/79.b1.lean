/-! MEASURE: how deep loops lie in loops -/
/-- loops one in another, in these nodes -/
def chG (G : List ND) : List Nat → Nat → Nat → Prop
  | [] => fun _ _ => True
  | c :: L => fun lo hi => lo ≤ c ∧ c < hi ∧ (G.getD c (0, 0, 0, 0, 1)).1 = 19 ∧ chG G L (c + 1) (c + szF G c)
def LDG (k : Nat) (G : List ND) : Prop := (∀ i, i < G.length → i + szF G i ≤ G.length) ∧ ∀ L, chG G L 0 G.length → L.length ≤ k
theorem chG.mo {G : List ND} {L : List Nat} {lo hi lo' hi' : Nat} (h : chG G L lo hi) (h1 : lo' ≤ lo) (h2 : hi ≤ hi') : chG G L lo' hi' := by
  cases L with
  | nil => trivial
  | cons c L => exact ⟨by have := h.1; omega, by have := h.2.1; omega, h.2.2.1, h.2.2.2⟩
theorem gD_l {G H : List ND} {i : Nat} (h : i < G.length) : (G ++ H).getD i (0, 0, 0, 0, 1) = G.getD i (0, 0, 0, 0, 1) := by
  rw [List.getD_eq_getElem?_getD, List.getElem?_append_left h, ← List.getD_eq_getElem?_getD]
theorem gD_r {G H : List ND} {i : Nat} (h : G.length ≤ i) : (G ++ H).getD i (0, 0, 0, 0, 1) = H.getD (i - G.length) (0, 0, 0, 0, 1) := by
  rw [List.getD_eq_getElem?_getD, List.getElem?_append_right h, ← List.getD_eq_getElem?_getD]
theorem chG.l {G H : List ND} (ws : ∀ i, i < G.length → i + szF G i ≤ G.length) : ∀ (L : List Nat) (lo hi : Nat), hi ≤ G.length → chG (G ++ H) L lo hi → chG G L lo hi
  | [], lo, hi, _, _ => trivial
  | c :: L, lo, hi, hh, h => by
    obtain ⟨h1, h2, h3, h4⟩ := h
    have lt : c < G.length := by omega
    have e : szF (G ++ H) c = szF G c := by unfold szF; rw [gD_l lt]
    rw [gD_l lt] at h3
    rw [e] at h4
    exact ⟨h1, h2, h3, chG.l ws L _ _ (ws c lt) h4⟩
theorem chG.r {G H : List ND} : ∀ (L : List Nat) (lo hi : Nat), G.length ≤ lo → chG (G ++ H) L lo hi → chG H (L.map (fun c => c - G.length)) (lo - G.length) (hi - G.length)
  | [], lo, hi, _, _ => trivial
  | c :: L, lo, hi, hh, h => by
    obtain ⟨h1, h2, h3, h4⟩ := h
    have ge : G.length ≤ c := by omega
    have e : szF (G ++ H) c = szF H (c - G.length) := by unfold szF; rw [gD_r ge]
    rw [gD_r ge] at h3
    rw [e] at h4
    have := chG.r L (c + 1) (c + szF H (c - G.length)) (by omega) h4
    show lo - G.length ≤ c - G.length ∧ c - G.length < hi - G.length ∧ (H.getD (c - G.length) (0, 0, 0, 0, 1)).1 = 19 ∧ chG H (L.map (fun c => c - G.length)) (c - G.length + 1) (c - G.length + szF H (c - G.length))
    exact ⟨by omega, by omega, h3, this.mo (by omega) (by omega)⟩
theorem LDG.app {k : Nat} {G H : List ND} (h : LDG k G) (h2 : LDG k H) : LDG k (G ++ H) := by
  refine ⟨fun i hi => ?_, fun L hL => ?_⟩
  · rw [List.length_append] at hi ⊢
    rcases Nat.lt_or_ge i G.length with w | w
    · have e : szF (G ++ H) i = szF G i := by unfold szF; rw [gD_l w]
      have := h.1 i w
      omega
    · have e : szF (G ++ H) i = szF H (i - G.length) := by unfold szF; rw [gD_r w]
      have := h2.1 (i - G.length) (by omega)
      omega
  · cases L with
    | nil => exact Nat.zero_le _
    | cons c L =>
      rcases Nat.lt_or_ge c G.length with w | w
      · refine h.2 (c :: L) ?_
        obtain ⟨h1, h3, h4, h5⟩ := hL
        have e : szF (G ++ H) c = szF G c := by unfold szF; rw [gD_l w]
        rw [gD_l w] at h4
        rw [e] at h5
        exact ⟨h1, w, h4, chG.l h.1 L _ _ (h.1 c w) h5⟩
      · have hL : chG (G ++ H) (c :: L) G.length (G ++ H).length := ⟨w, hL.2.1, hL.2.2.1, hL.2.2.2⟩
        have := chG.r (c :: L) _ _ (Nat.le_refl _) hL
        rw [List.length_append] at this
        have := h2.2 _ (this.mo (lo' := 0) (hi' := H.length) (Nat.zero_le _) (by omega))
        rw [List.length_map] at this
        exact this
theorem LDG.nil : LDG 0 [] := ⟨fun i hi => absurd hi (Nat.not_lt_zero _), fun L hL => by
  cases L with
  | nil => exact Nat.le_refl _
  | cons c L => exact absurd hL.2.1 (Nat.not_lt_zero _)⟩
theorem LDG.w {k k' : Nat} {G : List ND} (h : LDG k G) (hk : k ≤ k') : LDG k' G := ⟨h.1, fun L hL => Nat.le_trans (h.2 L hL) hk⟩
theorem LDG.nd {k : Nat} {q : ND} {G : List ND} (h : LDG k G) (hs : q.2.2.2.2 = G.length + 1) : LDG (if q.1 = 19 then k + 1 else k) (q :: G) := by
  have e0 : szF (q :: G) 0 = G.length + 1 := hs
  have es : q :: G = [q] ++ G := rfl
  refine ⟨fun i hi => ?_, fun L hL => ?_⟩
  · rw [List.length_cons] at hi ⊢
    cases i with
    | zero => rw [e0]; omega
    | succ i =>
      have e : szF (q :: G) (i + 1) = szF G i := rfl
      have := h.1 i (by omega)
      omega
  · cases L with
    | nil => exact Nat.zero_le _
    | cons c L =>
      have tail : ∀ (L : List Nat) (hi : Nat), hi ≤ G.length + 1 → chG (q :: G) L 1 hi → L.length ≤ k := by
        intro L hi hh hL
        rw [es] at hL
        have := chG.r (G := [q]) L _ _ (Nat.le_refl _) hL
        have := h.2 _ (this.mo (lo' := 0) (hi' := G.length) (Nat.zero_le _) (by show hi - 1 ≤ _; omega))
        rw [List.length_map] at this
        exact this
      by_cases c0 : c = 0
      · obtain ⟨h1, h3, h4, h5⟩ := hL
        rw [c0] at h4 h5
        have h4 : q.1 = 19 := h4
        rw [if_pos h4, List.length_cons]
        rw [e0] at h5
        have := tail L _ (by omega) h5
        omega
      · have hL : chG (q :: G) (c :: L) 1 (q :: G).length := ⟨by omega, hL.2.1, hL.2.2.1, hL.2.2.2⟩
        have := tail (c :: L) _ (by rw [List.length_cons]; omega) hL
        split <;> omega
theorem LDG.fl {k : Nat} : ∀ (Cs : List (Nat × List ND)), (∀ c, c ∈ Cs → LDG k c.2) → LDG k (Cs.map Prod.snd).flatten
  | [], _ => LDG.nil.w (Nat.zero_le _)
  | c :: Cs, h => by
    rw [List.map_cons, List.flatten_cons]
    exact (h c List.mem_cons_self).app (LDG.fl Cs (fun x hx => h x (List.mem_cons_of_mem _ hx)))
/-- nothing below is a loop -/
abbrev nL (k : Nat) : Prop := ¬ (k = 0 ∨ k = 1 ∨ k = 2 ∨ k = 3 ∨ k = 11 ∨ k = 15 ∨ k = 16 ∨ k = 17 ∨ k = 19)
theorem nL_kb : ∀ k, k < 37 → k ∉ ([0, 1, 2, 3, 11, 15, 16, 17, 19] : List Nat) → ∀ x, x ∈ kidK k → x ∉ ([0, 1, 2, 3, 11, 15, 16, 17, 19] : List Nat) := by decide
theorem nL_i (k : Nat) : nL k ↔ k ∉ ([0, 1, 2, 3, 11, 15, 16, 17, 19] : List Nat) := by simp only [List.mem_cons, List.not_mem_nil, or_false]
theorem nL_k (k : Nat) (hk : k < 37) (h : nL k) (x : Nat) (hx : x ∈ kidK k) : nL x := (nL_i x).mpr (nL_kb k hk ((nL_i k).mp h) x hx)
theorem GT.ld {m0 : yM} {T : Nat} : ∀ (N k : Nat) (G : List ND), GT m0 T N k G → nL k → LDG 0 G := by
  intro N
  induction N with
  | zero => intro k G h; exact absurd h (fun z => z)
  | succ N ih =>
    intro k G h hk
    obtain ⟨p, v, vt, Cs, rfl, ho, hc⟩ := h
    have k37 := ho.lt
    have a := (LDG.fl Cs (fun c hm => ih c.1 c.2 (hc c hm) (nL_k k k37 hk _ (ho.kid _ (List.mem_map_of_mem hm))))).nd (q := (nI k, p, v, vt, (Cs.map Prod.snd).flatten.length + 1)) rfl
    rw [if_neg (show ¬ (nI k) = 19 from fun z => by
      have := (nI_eq (b := 19) (by omega) (by omega)).mp z
      exact hk (by omega))] at a
    exact a
theorem GF.ld {m0 : yM} {T N : Nat} {ks : List Nat} {G : List ND} (h : GF m0 T N ks G) (hk : ∀ x, x ∈ ks → nL x) : LDG 0 G := by
  obtain ⟨Cs, rfl, rfl, hc⟩ := h
  exact LDG.fl Cs (fun c hm => GT.ld N c.1 c.2 (hc c hm) (hk _ (List.mem_map_of_mem hm)))
/-- what the reader makes: so many loops at the most, one in another -/
def ld (T k t o : Nat) (r : Option PX) : Prop := ∀ t' o' G, r = some (.inl (t', o', G)) → o' = o ∧ t ≤ t' ∧ (t' ≤ T → LDG k G)
theorem ld.of {m0 : yM} {T N k t o : Nat} {P : List Nat → Prop} {r : Option PX} (h : gs m0 T N P t o r) (hP : ∀ ks, P ks → ∀ x, x ∈ ks → nL x) : ld T k t o r := fun t' o' G e => by
  obtain ⟨a, b, c⟩ := h t' o' G e
  refine ⟨a, b, fun hT => ?_⟩
  obtain ⟨-, ks, k1, k2⟩ := c hT
  exact (k2.ld (hP ks k1)).w (Nat.zero_le _)
theorem ld.pp {T k t o1 o2 : Nat} {r : Option PX} {f : Nat → Nat → Option PX} (h : ld T k t o1 r) (hf : ∀ t1 G, r = some (.inl (t1, o1, G)) → ld T k t1 o2 (f t1 o1)) : ld T k t o2 (po r f) := by
  intro t' o' G e
  obtain ⟨t1, o1', G1, G2, e1, e2, rfl⟩ := po_some e
  obtain ⟨rfl, a2, a3⟩ := h _ _ _ e1
  obtain ⟨b1, b2, b3⟩ := hf t1 G1 e1 _ _ _ e2
  exact ⟨b1, by omega, fun hT => (a3 (by omega)).app (b3 hT)⟩
theorem ld.w {T k k' t o : Nat} {r : Option PX} (h : ld T k t o r) (hk : k ≤ k') : ld T k' t o r := fun t' o' G e => by
  obtain ⟨a, b, c⟩ := h t' o' G e
  exact ⟨a, b, fun hT => (c hT).w hk⟩
theorem ld.b {T k t t1 o : Nat} {r : Option PX} (h : ld T k t1 o r) (ht : t ≤ t1) : ld T k t o r := fun t' o' G e => by
  obtain ⟨a, b, c⟩ := h t' o' G e
  exact ⟨a, by omega, c⟩
theorem ld.nd {T k t o vt : Nat} {kd p v : Int32} {r : Option PX} (h : ld T k t o r) (hk : ¬ kd = 19) : ld T k t o (pnode kd p v vt r) := fun t' o' G e => by
  obtain ⟨G1, e1, rfl⟩ := pnode_some e
  obtain ⟨a, b, c⟩ := h t' o' G1 e1
  refine ⟨a, b, fun hT => ?_⟩
  have := (c hT).nd (q := (kd, p, v, vt, G1.length + 1)) rfl
  rw [if_neg (show ¬ kd = 19 from hk)] at this
  exact this
theorem ld.nd19 {T k t o vt : Nat} {p v : Int32} {r : Option PX} (h : ld T k t o r) : ld T (k + 1) t o (pnode 19 p v vt r) := fun t' o' G e => by
  obtain ⟨G1, e1, rfl⟩ := pnode_some e
  obtain ⟨a, b, c⟩ := h t' o' G1 e1
  refine ⟨a, b, fun hT => ?_⟩
  have := (c hT).nd (q := (19, p, v, vt, G1.length + 1)) rfl
  exact this
theorem nL1 {k : Nat} (h : nL k) {ks : List Nat} (e : ks = [k]) : ∀ x, x ∈ ks → nL x := fun x hx => by rw [e] at hx; rw [List.mem_singleton.mp hx]; exact h
theorem nL0 {ks : List Nat} (e : ks = []) : ∀ x, x ∈ ks → nL x := fun x hx => by rw [e] at hx; cases hx
theorem nLx {ks : List Nat} (e : isEx ks) : ∀ x, x ∈ ks → nL x := fun x hx => by
  obtain ⟨y, hy, rfl⟩ := e
  rw [List.mem_singleton.mp hx]
  omega
theorem ld.u {T k t o : Nat} : ld T k t o (unit_ t o) := fun t' o' G e => by
  simp only [unit_, Option.some.injEq, Sum.inl.injEq, Prod.mk.injEq] at e
  obtain ⟨rfl, rfl, rfl⟩ := e
  exact ⟨rfl, Nat.le_refl _, fun _ => LDG.nil.w (Nat.zero_le _)⟩
theorem ld.nn {T k t o : Nat} : ld T k t o none := fun _ _ _ e => by cases e
theorem ld.s {m0 : yM} {T k t o : Nat} {r : Option PX} {c : Int32} (h : ld T k t o r) : ld T k t o (po r (fun t o => some (p_exp m0 c t o))) := h.pp (fun _ _ _ => ld.of (gs.exp (m0 := m0) (T := T) (N := 0)) (fun _ e => nL0 e))
theorem ld.d {T k t o : Nat} {r : Option PX} (h : ld T k t (o + 1) r) : ld T k t o (po r pdec) := h.pp (fun _ _ _ => ld.of (gs.dec (m0 := (fun _ _ => 0, fun _ _ => 0)) (T := T) (N := 0)) (fun _ e => nL0 e))
def lS (T : Nat) (rc : SR) : Prop := ∀ md q t o, o ≤ 60 → ld T (60 - o) t o (rc md q t o)
theorem lS.els {m0 : yM} {T t o : Nat} {rc : SR} (h : lS T rc) (ho : o ≤ 60) : ld T (60 - o) t o (p_else m0 rc t o) := by
  unfold p_else
  split
  · exact ((ld.of (gs.step (m0 := m0) (T := T) (N := 0)) (fun _ e => nL0 e)).b (by omega)).pp (fun t1 G _ => h 0 0 t1 o ho)
  · exact ld.u
theorem lSs {m0 : yM} {T N : Nat} {rc : SR} (h : lS T rc) : lS T (pS m0 N rc) := by
  intro md q t o ho
  have exx : ∀ (t o : Nat), o ≤ 60 → ∀ k, ld T k t o (exO m0 N t o) := fun t o ho k => ld.of (gs.ex (m0 := m0) (T := T) (N := N) (t := t) ho) (fun _ e => nLx e)
  have into : ∀ k, ld T k t (o + 1) (some (p_into m0 t o)) := fun k => (ld.of (gs.into (m0 := m0) (T := T) (N := 0)) (fun _ e => nL0 e)).b (by omega)
  match md with
  | 0 =>
    show ld T (60 - o) t o (pnode 11 (if t = 0 then 0 else m0.1 10 (t - 1)) 0 0 (rc 1 8192 t o))
    exact (h 1 8192 t o ho).nd (by decide)
  | 1 =>
    show ld T (60 - o) t o (if q = 0 then unit_ t o else if stS (m0.1 9 t) then po (rc 2 0 t o) (rc 1 (q - 1)) else unit_ t o)
    split
    · exact ld.u
    · split
      · exact (h 2 0 t o ho).pp (fun t1 G _ => h 1 (q - 1) t1 o ho)
      · exact ld.u
  | 2 =>
    show ld T (60 - o) t o (po (p_st m0 N rc t o) (fun t o => some (p_exp m0 187 t o)))
    refine ld.s ?_
    unfold p_st
    split
    · exact h 3 0 t o ho
    · split
      · exact h 5 0 t o ho
      · split
        · exact h 7 0 t o ho
        · split
          · exact ld.of (gs.of (gm.lf (m0 := m0) (T := T) (k := 20) rfl (fun _ _ => ⟨rfl, rfl⟩)) (fun _ _ _ e => (lf_o e).2.1)) (fun _ e => nL1 (by decide) e)
          · split
            · exact ld.of (gs.of (gm.lf (m0 := m0) (T := T) (k := 21) rfl (fun _ _ => ⟨rfl, rfl⟩)) (fun _ _ _ e => (lf_o e).2.1)) (fun _ e => nL1 (by decide) e)
            · split
              · rename_i z
                split
                · exact ld.of (gs.inv (T := T) ho z) (fun _ e => nL1 (by decide) e)
                · exact ld.of (gs.asgn (T := T) ho z) (fun _ e => nL1 (by decide) e)
              · exact ld.u
  | 3 =>
    show ld T (60 - o) t o (pnode 15 (m0.1 10 t) 0 0 (po (po (po (po (po (po (po (some (p_into m0 t o)) (exO m0 N)) (fun t o => some (p_exp m0 17 t o))) (rc 0 0)) (rc 4 8192)) (p_else m0 rc)) (fun t o => some (p_exp m0 20 t o))) pdec))
    refine ld.nd ?_ (by decide)
    by_cases lt : o < 60
    · refine ld.d (ld.s (ld.pp (ld.pp (ld.pp (ld.s (ld.pp (into _) (fun t1 G _ => exx t1 (o + 1) (by omega) _))) (fun t1 G _ => (h 0 0 t1 (o + 1) (by omega)).w (by omega))) (fun t1 G _ => (h 4 8192 t1 (o + 1) (by omega)).w (by omega))) (fun t1 G _ => (lS.els h (by omega)).w (by omega))))
    · have hi : p_into m0 t o = p_ref m0 7 t := by unfold p_into; rw [if_neg lt]
      rw [hi]
      intro t' o' G e
      cases e
  | 4 =>
    show ld T (60 - o) t o (if q = 0 then unit_ t o else if m0.1 9 t = 18 then po (po (po (po (some (p_step m0 t o)) (exO m0 N)) (fun t o => some (p_exp m0 17 t o))) (rc 0 0)) (rc 4 (q - 1)) else unit_ t o)
    split
    · exact ld.u
    · split
      · exact ld.pp (ld.pp (ld.s (ld.pp ((ld.of (gs.step (m0 := m0) (T := T) (N := 0)) (fun _ e => nL0 e)).b (by omega)) (fun t1 G _ => exx t1 o ho _))) (fun t1 G _ => h 0 0 t1 o ho)) (fun t1 G _ => h 4 (q - 1) t1 o ho)
      · exact ld.u
  | 5 =>
    show ld T (60 - o) t o (pnode 16 (m0.1 10 t) 0 0 (po (po (po (po (po (po (some (p_into m0 t o)) (exO m0 N)) (fun t o => some (p_exp m0 15 t o))) (rc 6 8192)) (p_else m0 rc)) (fun t o => some (p_exp m0 22 t o))) pdec))
    refine ld.nd ?_ (by decide)
    by_cases lt : o < 60
    · refine ld.d (ld.s (ld.pp (ld.pp (ld.s (ld.pp (into _) (fun t1 G _ => exx t1 (o + 1) (by omega) _))) (fun t1 G _ => (h 6 8192 t1 (o + 1) (by omega)).w (by omega))) (fun t1 G _ => (lS.els h (by omega)).w (by omega))))
    · have hi : p_into m0 t o = p_ref m0 7 t := by unfold p_into; rw [if_neg lt]
      rw [hi]
      intro t' o' G e
      cases e
  | 6 =>
    show ld T (60 - o) t o (if q = 0 then unit_ t o else if stC (m0.1 9 t) then po (pnode 17 (m0.1 10 t) 0 0 (po (po (some (p_rng m0 8192 t o)) (fun t o => some (p_exp m0 186 t o))) (rc 0 0))) (rc 6 (q - 1)) else unit_ t o)
    split
    · exact ld.u
    · split
      · refine ld.pp (ld.nd (ld.pp (ld.s (ld.of (gs.of (gm.rng (T := T) 8192 t o) (fun _ _ _ e => p_rng_o e)) (fun ks e x hx => ?_))) (fun t1 G _ => h 0 0 t1 o ho)) (by decide)) (fun t1 G _ => h 6 (q - 1) t1 o ho)
        rw [e.1 x hx]
        decide
      · exact ld.u
  | 7 =>
    show ld T (60 - o) t o (match p_into m0 t o with
      | .inr e => some (.inr e)
      | .inl (t1, o1, _) => pnode 19 (m0.1 10 t) (m0.1 11 t1) (t1 + 1) (po (po (po (some (p_bind (p_bind (p_bind (p_bind (p_bind (p_bind (p_exp m0 64 t1 o1) (p_exp m0 70)) (p_const m0)) (p_exp m0 24)) (p_const m0)) (p_if m0 25 (fun t o => p_bind (p_step m0 t o) (p_const m0)))) (p_exp m0 26))) (rc 0 0)) (fun t o => some (p_exp m0 27 t o))) pdec))
    rcases hi : p_into m0 t o with ⟨t1, o1, G1⟩ | e1
    · dsimp only
      obtain ⟨rfl, rfl, rfl, lt⟩ := p_into_o hi
      have c := (((((gm.exp' (m0 := m0) (T := T) (N := 1) (t := t + 1) (o := o + 1) (k := 64)).s (k := 70)).bind (f := p_const m0) (fun _ _ => gm.const)).s (k := 24)).bind (f := p_const m0) (fun _ _ => gm.const)).bind (fun t1 o1 => gm.pif (c := 25) (t := t1) (o := o1) (f := fun t o => p_bind (p_step m0 t o) (p_const m0)) ((gm.st (f := p_const m0) (fun _ _ => gm.const)).b (by omega))) |>.s (k := 26)
      have co : ∀ t' o' G, p_bind (p_bind (p_bind (p_bind (p_bind (p_bind (p_exp m0 64 (t + 1) (o + 1)) (p_exp m0 70)) (p_const m0)) (p_exp m0 24)) (p_const m0)) (p_if m0 25 (fun t o => p_bind (p_step m0 t o) (p_const m0)))) (p_exp m0 26) = .inl (t', o', G) → o' = o + 1 := by
        intro t' o' G e
        obtain ⟨_, _, _, _, e1, e2⟩ := p_bind_ex e
        obtain ⟨_, _, _, _, e3, e4⟩ := p_bind_ex e1
        obtain ⟨_, _, _, _, e5, e6⟩ := p_bind_ex e3
        obtain ⟨_, _, _, _, e7, e8⟩ := p_bind_ex e5
        obtain ⟨_, _, _, _, e9, e10⟩ := p_bind_ex e7
        obtain ⟨_, _, _, _, e11, e12⟩ := p_bind_ex e9
        have a1 := (p_exp_o e11).2.1
        have a2 := (p_exp_o e12).2.1
        have a3 := p_const_o e10
        have a4 := (p_exp_o e8).2.1
        have a5 := p_const_o e6
        have a7 := (p_exp_o e2).2.1
        unfold p_if at e4
        split at e4
        · obtain ⟨_, _, _, _, e13, e14⟩ := p_bind_ex e4
          have a8 := (p_step_o e13).2.1
          have a9 := p_const_o e14
          omega
        · simp only [Sum.inl.injEq, Prod.mk.injEq] at e4
          omega
      have first := ld.of (k := 60 - (o + 1)) (gs.of c co) (fun ks h => by
        obtain ⟨a, s, rfl, ⟨a, b2, rfl, ⟨a, b3, rfl, ⟨rfl, h2, h3⟩, ⟨x, hx, rfl⟩⟩, ⟨y, hy, rfl⟩⟩, hs⟩ := h
        intro z hz
        simp only [List.nil_append, List.cons_append, List.mem_cons] at hz
        rcases hz with rfl | rfl | hz
        · omega
        · omega
        · rcases hs with rfl | ⟨w, hw, rfl⟩
          · cases hz
          · rw [List.mem_singleton.mp hz]
            omega)
      have fin := ((first.pp (f := rc 0 0) (fun t1 G _ => h 0 0 t1 (o + 1) (by omega))).s (m0 := m0) (c := 27)).d
      have := (fin.b (show t ≤ t + 1 + 1 by omega)).nd19 (p := m0.1 10 t) (v := m0.1 11 (t + 1)) (vt := t + 1 + 1)
      exact this.w (by omega)
    · intro t' o' G e
      cases e
  | md + 8 => exact ld.nn
theorem lTT {m0 : yM} {T N : Nat} : ∀ n, lS T (pT m0 N n)
  | 0 => fun _ _ _ _ _ => ld.nn
  | n + 1 => lSs (lTT n)
