/-! THE TREE'S GRAMMAR: which kinds stand below a node, how deep it goes, which tokens its names are -/
def vts (G : List ND) : List Nat := (G.map (fun q => q.2.2.2.1)).filter (fun x => decide (¬ x = 0))
/-- the tokens named go up -/
def VI (t t' : Nat) (G : List ND) : Prop := (vts G).Pairwise (· < ·) ∧ ∀ x, x ∈ vts G → t < x ∧ x ≤ t'
theorem vts_app (G H : List ND) : vts (G ++ H) = vts G ++ vts H := by simp [vts]
theorem VI.nil {t t' : Nat} : VI t t' [] := ⟨List.Pairwise.nil, fun x hx => by simp [vts] at hx⟩
theorem VI.app {t t1 t' : Nat} {G H : List ND} (h : VI t t1 G) (h' : VI t1 t' H) (a : t ≤ t1) (b : t1 ≤ t') : VI t t' (G ++ H) := by
  unfold VI
  rw [vts_app]
  refine ⟨List.pairwise_append.mpr ⟨h.1, h'.1, fun x hx y hy => ?_⟩, fun x hx => ?_⟩
  · have := h.2 x hx
    have := h'.2 y hy
    omega
  · rcases List.mem_append.mp hx with y | y
    · have := h.2 x y
      omega
    · have := h'.2 x y
      omega
theorem VI.z {t t' : Nat} {G : List ND} {k p v : Int32} {s : Nat} (h : VI t t' G) : VI t t' ((k, p, v, 0, s) :: G) := by
  have e : vts ((k, p, v, 0, s) :: G) = vts G := by simp [vts]
  unfold VI
  rw [e]
  exact h
theorem VI.c {t vt t' : Nat} {G : List ND} {k p v : Int32} {s : Nat} (h : VI vt t' G) (a : t < vt) (b : vt ≤ t') : VI t t' ((k, p, v, vt, s) :: G) := by
  have e : vts ((k, p, v, vt, s) :: G) = vt :: vts G := by simp [vts, show ¬ vt = 0 by omega]
  unfold VI
  rw [e]
  refine ⟨List.pairwise_cons.mpr ⟨fun x hx => (h.2 x hx).1, h.1⟩, fun x hx => ?_⟩
  rcases List.mem_cons.mp hx with y | y
  · omega
  · have := h.2 x y
    omega
/-- v is the name that token vt - 1 is -/
def nmN (m0 : yM) (T : Nat) (v : Int32) (vt : Nat) : Prop := ∃ t, vt = t + 1 ∧ t < T ∧ m0.1 9 t = 64 ∧ v = m0.1 11 t
abbrev exK (x : Nat) : Prop := x = 6 ∨ x = 30 ∨ x = 31 ∨ x = 32 ∨ x = 33 ∨ x = 34 ∨ x = 35 ∨ x = 36
abbrev cnK (x : Nat) : Prop := x = 30 ∨ x = 31
abbrev stK (x : Nat) : Prop := x = 12 ∨ x = 13 ∨ x = 15 ∨ x = 16 ∨ x = 19 ∨ x = 20 ∨ x = 21
abbrev lcK (x : Nat) : Prop := x = 25 ∨ x = 26 ∨ x = 27 ∨ x = 28
def elsK (s : List Nat) : Prop := s = [] ∨ s = [11]
def iniK (s : List Nat) : Prop := s = [] ∨ ∃ x, cnK x ∧ s = [x]
/-- what a node of kind k may have -/
def okN (m0 : yM) (T : Nat) (k : Nat) (v : Int32) (vt : Nat) (ks : List Nat) : Prop := match k with
  | 0 => vt = 0 ∧ ∀ x, x ∈ ks → x = 1 ∨ x = 2 ∨ x = 3
  | 1 => nmN m0 T v vt ∧ ∃ s b, ks = 8 :: (s ++ [b]) ∧ (∀ x, x ∈ s → x = 4) ∧ (b = 11 ∨ b = 22)
  | 2 => nmN m0 T v vt ∧ ∃ s b, ks = s ++ [b] ∧ (∀ x, x ∈ s → x = 4) ∧ (b = 11 ∨ b = 22)
  | 3 => nmN m0 T v vt ∧ ∃ s b, ks = s ++ [b] ∧ (∀ x, x ∈ s → x = 4) ∧ (b = 11 ∨ b = 22)
  | 4 => vt = 0 ∧ (v = 0 ∨ v = 1 ∨ v = 2) ∧ ∀ x, x ∈ ks → x = 5
  | 5 => vt = 0 ∧ ∃ n pl ty ini, ks = 6 :: (n ++ (pl ++ ty :: ini)) ∧ (∀ x, x ∈ n → x = 6) ∧ (pl = [] ∨ pl = [7]) ∧ (ty = 8 ∨ ty = 9 ∨ ty = 10) ∧ iniK ini
  | 6 => nmN m0 T v vt ∧ ks = []
  | 7 => vt = 0 ∧ ks = [] ∧ ∃ t, t < T ∧ m0.1 9 t = 66 ∧ v = m0.1 11 t
  | 8 => vt = 0 ∧ ks = [] ∧ (v = 0 ∨ v = 1 ∨ v = 2)
  | 9 => vt = 0 ∧ ∃ a b, cnK a ∧ cnK b ∧ ks = [a, b, 8]
  | 10 => nmN m0 T v vt ∧ ks = []
  | 11 => vt = 0 ∧ ∀ x, x ∈ ks → stK x
  | 12 => vt = 0 ∧ ∃ a b, (a = 6 ∨ a = 32) ∧ exK b ∧ ks = [a, b]
  | 13 => nmN m0 T v vt ∧ ∀ x, x ∈ ks → x = 14
  | 14 => nmN m0 T v vt ∧ ∃ a, exK a ∧ ks = [a]
  | 15 => vt = 0 ∧ ∃ (es : List Nat) (s : List Nat), (∀ x, x ∈ es → exK x) ∧ ¬ es = [] ∧ elsK s ∧ ks = es.flatMap (fun e => [e, 11]) ++ s
  | 16 => vt = 0 ∧ ∃ e c s, exK e ∧ (∀ x, x ∈ c → x = 17) ∧ elsK s ∧ ks = e :: (c ++ s)
  | 17 => vt = 0 ∧ ∃ r, (∀ x, x ∈ r → x = 18) ∧ ¬ r = [] ∧ ks = r ++ [11] ∧ r.length ≤ 8192
  | 18 => vt = 0 ∧ ∃ a s, cnK a ∧ iniK s ∧ ks = a :: s
  | 19 => nmN m0 T v vt ∧ ∃ a b s, cnK a ∧ cnK b ∧ iniK s ∧ ks = a :: b :: (s ++ [11])
  | 20 => vt = 0 ∧ ks = []
  | 21 => vt = 0 ∧ ks = []
  | 22 => vt = 0 ∧ ∀ x, x ∈ ks → x = 23
  | 23 => vt = 0 ∧ ¬ ks = [] ∧ ∀ x, x ∈ ks → x = 24
  | 24 => vt = 0 ∧ ∃ c r, lcK c ∧ (∀ x, x ∈ r → lcK x ∨ x = 29) ∧ ks = c :: r
  | 25 => vt = 0 ∧ (v = 0 ∨ v = 1 ∨ v = 2 ∨ v = 3) ∧ (ks = [6] ∨ ks = [33])
  | 26 => vt = 0 ∧ ks = []
  | 27 => vt = 0 ∧ ks = []
  | 28 => vt = 0 ∧ (v = 0 ∨ v = 1 ∨ v = 2 ∨ v = 3) ∧ ks = [6]
  | 29 => vt = 0 ∧ ks = []
  | 30 => vt = 0 ∧ ks = []
  | 31 => vt = 0 ∧ ks = [] ∧ (v = 0 ∨ v = 1)
  | 32 => nmN m0 T v vt ∧ ∃ a, exK a ∧ ks = [a]
  | 33 => nmN m0 T v vt ∧ ks = [6]
  | 34 => nmN m0 T v vt ∧ ∀ x, x ∈ ks → exK x
  | 35 => vt = 0 ∧ (∃ j, j < 14 ∧ v = nI j) ∧ ∃ a b, exK a ∧ exK b ∧ ks = [a, b]
  | 36 => vt = 0 ∧ (v = 0 ∨ v = 1) ∧ ∃ a, exK a ∧ ks = [a]
  | _ => False
/-- a tree of kind k, no deeper than N -/
def GT (m0 : yM) (T : Nat) : Nat → Nat → List ND → Prop
  | 0 => fun _ _ => False
  | N + 1 => fun k G => ∃ (p v : Int32) (vt : Nat) (Cs : List (Nat × List ND)), G = (nI k, p, v, vt, (Cs.map Prod.snd).flatten.length + 1) :: (Cs.map Prod.snd).flatten ∧ okN m0 T k v vt (Cs.map Prod.fst) ∧ ∀ c, c ∈ Cs → GT m0 T N c.1 c.2
def GF (m0 : yM) (T N : Nat) (ks : List Nat) (G : List ND) : Prop := ∃ Cs : List (Nat × List ND), (Cs.map Prod.snd).flatten = G ∧ Cs.map Prod.fst = ks ∧ ∀ c, c ∈ Cs → GT m0 T N c.1 c.2
theorem GT.mono {m0 : yM} {T : Nat} : ∀ {N N' k : Nat} {G : List ND}, N ≤ N' → GT m0 T N k G → GT m0 T N' k G := by
  intro N
  induction N with
  | zero => intro N' k G _ h; exact absurd h (fun z => z)
  | succ N ih =>
    intro N' k G hN h
    obtain ⟨M, rfl⟩ : ∃ M, N' = M + 1 := ⟨N' - 1, by omega⟩
    obtain ⟨p, v, vt, Cs, e, h1, h2⟩ := h
    exact ⟨p, v, vt, Cs, e, h1, fun c hc => ih (by omega) (h2 c hc)⟩
theorem GF.mono {m0 : yM} {T N N' : Nat} {ks : List Nat} {G : List ND} (hN : N ≤ N') (h : GF m0 T N ks G) : GF m0 T N' ks G := by
  obtain ⟨Cs, e1, e2, h2⟩ := h
  exact ⟨Cs, e1, e2, fun c hc => (h2 c hc).mono hN⟩
theorem GF.nil {m0 : yM} {T N : Nat} : GF m0 T N [] [] := ⟨[], rfl, rfl, fun c hc => by simp at hc⟩
theorem GF.app {m0 : yM} {T N : Nat} {ks ks' : List Nat} {G G' : List ND} (h : GF m0 T N ks G) (h' : GF m0 T N ks' G') : GF m0 T N (ks ++ ks') (G ++ G') := by
  obtain ⟨Cs, rfl, rfl, h2⟩ := h
  obtain ⟨Cs', rfl, rfl, h2'⟩ := h'
  refine ⟨Cs ++ Cs', by simp, by simp, fun c hc => ?_⟩
  rcases List.mem_append.mp hc with y | y
  · exact h2 c y
  · exact h2' c y
theorem GF.one {m0 : yM} {T N k : Nat} {G : List ND} (h : GT m0 T N k G) : GF m0 T N [k] G := ⟨[(k, G)], by simp, rfl, fun c hc => by
  rw [List.mem_singleton.mp hc]
  exact h⟩
theorem GF.nd {m0 : yM} {T N k : Nat} {p v : Int32} {vt : Nat} {ks : List Nat} {G : List ND} (h : GF m0 T N ks G) (ho : okN m0 T k v vt ks) : GT m0 T (N + 1) k ((nI k, p, v, vt, G.length + 1) :: G) := by
  obtain ⟨Cs, rfl, rfl, h2⟩ := h
  exact ⟨p, v, vt, Cs, rfl, ho, h2⟩
/-- a pure answer: trees of these kinds, no deeper than N -/
def gm (m0 : yM) (T N : Nat) (P : List Nat → Prop) (t : Nat) (X : PX) : Prop := ∀ t' o' G, X = .inl (t', o', G) → t ≤ t' ∧ (t' ≤ T → VI t t' G ∧ ∃ ks, P ks ∧ GF m0 T N ks G)
def cat (P P' : List Nat → Prop) (ks : List Nat) : Prop := ∃ a b, ks = a ++ b ∧ P a ∧ P' b
abbrev isE (ks : List Nat) : Prop := ks = []
abbrev is1 (k : Nat) (ks : List Nat) : Prop := ks = [k]
theorem gm.bind {m0 : yM} {T N t : Nat} {P P' : List Nat → Prop} {X : PX} {f : Nat → Nat → PX} (h : gm m0 T N P t X) (hf : ∀ t1 o1, gm m0 T N P' t1 (f t1 o1)) : gm m0 T N (cat P P') t (p_bind X f) := by
  intro t' o' G e
  obtain ⟨t1, o1, G1, G2, e1, e2, rfl⟩ := p_bind_il e
  have a := h t1 o1 G1 e1
  have b := hf t1 o1 t' o' G2 e2
  refine ⟨by omega, fun hT => ?_⟩
  obtain ⟨v1, k1, p1, g1⟩ := a.2 (by omega)
  obtain ⟨v2, k2, p2, g2⟩ := b.2 hT
  exact ⟨v1.app v2 a.1 b.1, k1 ++ k2, ⟨k1, k2, rfl, p1, p2⟩, g1.app g2⟩
theorem gm.w {m0 : yM} {T N N' t : Nat} {P P' : List Nat → Prop} {X : PX} (h : gm m0 T N P t X) (hN : N ≤ N') (hP : ∀ ks, P ks → P' ks) : gm m0 T N' P' t X := by
  intro t' o' G e
  have a := h t' o' G e
  refine ⟨a.1, fun hT => ?_⟩
  obtain ⟨v1, k1, p1, g1⟩ := a.2 hT
  exact ⟨v1, k1, hP _ p1, g1.mono hN⟩
theorem gm.b {m0 : yM} {T N t t1 : Nat} {P : List Nat → Prop} {X : PX} (h : gm m0 T N P t1 X) (ht : t ≤ t1) : gm m0 T N P t X := by
  intro t' o' G e
  have a := h t' o' G e
  refine ⟨by omega, fun hT => ?_⟩
  obtain ⟨v1, k1, p1, g1⟩ := a.2 hT
  exact ⟨⟨v1.1, fun x hx => by have := v1.2 x hx; omega⟩, k1, p1, g1⟩
theorem gm.e {m0 : yM} {T N t : Nat} {P : List Nat → Prop} (e : Int32 × Int32) : gm m0 T N P t (.inr e) := fun _ _ _ h => by cases h
theorem gm.u {m0 : yM} {T N t o : Nat} : gm m0 T N isE t (.inl (t, o, [])) := by
  intro t' o' G e
  simp only [Sum.inl.injEq, Prod.mk.injEq] at e
  obtain ⟨rfl, -, rfl⟩ := e
  exact ⟨Nat.le_refl _, fun _ => ⟨VI.nil, [], rfl, GF.nil⟩⟩
theorem gm.step {m0 : yM} {T N t o : Nat} : gm m0 T N isE (t + 1) (p_step m0 t o) := by
  intro t' o' G e
  obtain ⟨rfl, -, rfl⟩ := p_step_o e
  exact ⟨Nat.le_refl _, fun _ => ⟨VI.nil, [], rfl, GF.nil⟩⟩
theorem gm.into {m0 : yM} {T N t o : Nat} : gm m0 T N isE (t + 1) (p_into m0 t o) := by
  intro t' o' G e
  obtain ⟨rfl, -, rfl, -⟩ := p_into_o e
  exact ⟨Nat.le_refl _, fun _ => ⟨VI.nil, [], rfl, GF.nil⟩⟩
/-- a token that was asked for -/
abbrev isX (m0 : yM) (T t : Nat) (k : Int32) (ks : List Nat) : Prop := ks = [] ∧ t < T ∧ m0.1 9 t = k
theorem gm.exp' {m0 : yM} {T N t o : Nat} {k : Int32} : gm m0 T N (isX m0 T t k) (t + 1) (p_exp m0 k t o) := by
  intro t' o' G e
  obtain ⟨rfl, -, rfl, hk⟩ := p_exp_o e
  exact ⟨Nat.le_refl _, fun _ => ⟨VI.nil, [], ⟨rfl, by omega, hk⟩, GF.nil⟩⟩
theorem gm.exp {m0 : yM} {T N t o : Nat} {k : Int32} : gm m0 T N isE t (p_exp m0 k t o) := (gm.exp'.w (Nat.le_refl _) (fun _ h => h.1)).b (by omega)
theorem gm.nd0 {m0 : yM} {T N k t : Nat} {P : List Nat → Prop} {X : PX} {kd p v : Int32} (h : gm m0 T N P t X) (hk : kd = nI k) (ho : ∀ ks, P ks → okN m0 T k v 0 ks) : gm m0 T (N + 1) (is1 k) t (p_node kd p v 0 X) := by
  intro t' o' G e
  obtain ⟨G1, e1, rfl⟩ := p_node_o e
  have a := h t' o' G1 e1
  refine ⟨a.1, fun hT => ?_⟩
  obtain ⟨v1, k1, p1, g1⟩ := a.2 hT
  refine ⟨v1.z, [k], rfl, GF.one ?_⟩
  rw [hk]
  exact g1.nd (ho _ p1)
theorem gm.ndv {m0 : yM} {T N k t vt : Nat} {P : List Nat → Prop} {X : PX} {kd p v : Int32} (h : gm m0 T N P vt X) (ht : t < vt) (hk : kd = nI k) (ho : ∀ ks, vt ≤ T → P ks → okN m0 T k v vt ks) : gm m0 T (N + 1) (is1 k) t (p_node kd p v vt X) := by
  intro t' o' G e
  obtain ⟨G1, e1, rfl⟩ := p_node_o e
  have a := h t' o' G1 e1
  refine ⟨by omega, fun hT => ?_⟩
  obtain ⟨v1, k1, p1, g1⟩ := a.2 hT
  refine ⟨v1.c ht a.1, [k], rfl, GF.one ?_⟩
  rw [hk]
  exact g1.nd (ho _ (by omega) p1)
/-- a name of its own -/
theorem gm.nm {m0 : yM} {T t o k : Nat} {kd : Int32} (hk : kd = nI k) (ho : ∀ v vt, nmN m0 T v vt → okN m0 T k v vt []) : gm m0 T 1 (is1 k) t (p_leaf m0 64 kd (m0.1 11 t) (t + 1) t o) := by
  unfold p_leaf
  split
  · rename_i z
    exact gm.ndv (N := 0) gm.step (by omega) hk (fun ks hT e => by rw [e]; exact ho _ _ ⟨t, rfl, by omega, z, rfl⟩)
  · exact gm.e _
theorem gm.lf {m0 : yM} {T t o k : Nat} {tok kd v : Int32} (hk : kd = nI k) (ho : t < T → m0.1 9 t = tok → okN m0 T k v 0 []) : gm m0 T 1 (is1 k) t (p_leaf m0 tok kd v 0 t o) := by
  unfold p_leaf
  split
  · rename_i z
    intro t' o' G e
    obtain ⟨G1, e1, rfl⟩ := p_node_o e
    obtain ⟨rfl, -, rfl⟩ := p_step_o e1
    refine ⟨by omega, fun hT => ⟨VI.nil.z, [k], rfl, GF.one ?_⟩⟩
    rw [hk]
    exact GF.nd GF.nil (ho (by omega) z)
  · exact gm.e _
theorem gm.simple {m0 : yM} {T t o : Nat} : gm m0 T 1 (is1 8) t (p_simple m0 t o) := by
  unfold p_simple
  split
  · exact gm.e _
  · rename_i z
    have hv : m0.1 9 t - 11 = 0 ∨ m0.1 9 t - 11 = 1 ∨ m0.1 9 t - 11 = 2 := by
      have z1 : ¬ m0.1 9 t < 11 := fun y => z (Or.inl y)
      have z2 : ¬ 13 < m0.1 9 t := fun y => z (Or.inr y)
      generalize m0.1 9 t = x at z1 z2
      have z1 : ¬ x.toInt < 11 := fun y => z1 (Int32.lt_iff_toInt_lt.mpr y)
      have z2 : ¬ 13 < x.toInt := fun y => z2 (Int32.lt_iff_toInt_lt.mpr y)
      have c : x.toInt = 11 ∨ x.toInt = 12 ∨ x.toInt = 13 := by omega
      rcases c with c | c | c
      · left; rw [show x = 11 from Int32.toInt_inj.mp c]; decide
      · right; left; rw [show x = 12 from Int32.toInt_inj.mp c]; decide
      · right; right; rw [show x = 13 from Int32.toInt_inj.mp c]; decide
    exact gm.nd0 (N := 0) (gm.step.b (by omega)) rfl (fun ks e => ⟨rfl, e, hv⟩)
theorem gm.const {m0 : yM} {T t o : Nat} : gm m0 T 1 (fun ks => ∃ x, cnK x ∧ ks = [x]) t (p_const m0 t o) := by
  have n30 : ∀ {p v : Int32} {t1 o1 : Nat}, gm m0 T 1 (fun ks => ∃ x, cnK x ∧ ks = [x]) t1 (p_node 30 p v 0 (p_step m0 t1 o1)) := fun {p v t1 o1} => (gm.nd0 (k := 30) (N := 0) (gm.step.b (by omega)) rfl (fun ks e => ⟨rfl, e⟩)).w (Nat.le_refl _) (fun ks e => ⟨30, Or.inl rfl, e⟩)
  unfold p_const
  split
  · refine gm.w (gm.bind (P := isE) (P' := fun ks => ∃ x, cnK x ∧ ks = [x]) (gm.step.b (by omega)) (fun t1 o1 => ?_)) (Nat.le_refl _) (fun ks h => ?_)
    · split
      · exact n30
      · exact gm.e _
    · obtain ⟨a, b, rfl, rfl, h⟩ := h
      exact h
  · split
    · exact n30
    · split
      · refine gm.w (gm.nd0 (k := 31) (N := 0) (gm.step.b (by omega)) rfl (fun ks e => ⟨rfl, e, ?_⟩)) (Nat.le_refl _) (fun ks e => ⟨31, Or.inr rfl, e⟩)
        split
        · exact Or.inr rfl
        · exact Or.inl rfl
      · exact gm.e _
/-- parts without nodes in between -/
theorem cat.eL {P : List Nat → Prop} {ks : List Nat} (h : cat isE P ks) : P ks := by
  obtain ⟨a, b, rfl, rfl, h⟩ := h
  exact h
theorem cat.eR {P : List Nat → Prop} {ks : List Nat} (h : cat P isE ks) : P ks := by
  obtain ⟨a, b, rfl, h, rfl⟩ := h
  rw [List.append_nil]
  exact h
theorem gm.s {m0 : yM} {T N t : Nat} {P : List Nat → Prop} {X : PX} {k : Int32} (h : gm m0 T N P t X) : gm m0 T N P t (p_bind X (p_exp m0 k)) := (h.bind (fun _ _ => gm.exp)).w (Nat.le_refl _) (fun _ h => h.eR)
theorem gm.st {m0 : yM} {T N t o : Nat} {P : List Nat → Prop} {f : Nat → Nat → PX} (hf : ∀ t1 o1, gm m0 T N P t1 (f t1 o1)) : gm m0 T N P (t + 1) (p_bind (p_step m0 t o) f) := (gm.bind gm.step hf).w (Nat.le_refl _) (fun _ h => h.eL)
theorem gm.pif {m0 : yM} {T N t o : Nat} {P : List Nat → Prop} {c : Int32} {f : Nat → Nat → PX} (hf : gm m0 T N P t (f t o)) : gm m0 T N (fun ks => ks = [] ∨ P ks) t (p_if m0 c f t o) := by
  unfold p_if
  split
  · exact hf.w (Nat.le_refl _) (fun _ h => Or.inr h)
  · exact gm.u.w (Nat.le_refl _) (fun _ h => Or.inl h)
theorem gm.type {m0 : yM} {T t o : Nat} : gm m0 T 2 (fun ks => ∃ x, (x = 8 ∨ x = 9 ∨ x = 10) ∧ ks = [x]) t (p_type m0 t o) := by
  unfold p_type
  split
  · have a := (((((((gm.step (m0 := m0) (T := T) (N := 1) (t := t) (o := o)).s (k := 219)).bind (f := p_const m0) (fun _ _ => gm.const)).s (k := 71)).bind (f := p_const m0) (fun _ _ => gm.const)).s (k := 221)).s (k := 15)).bind (f := p_simple m0) (fun _ _ => gm.simple)
    refine gm.w (gm.nd0 (k := 9) (a.b (by omega)) rfl (fun ks h => ?_)) (Nat.le_refl _) (fun ks e => ⟨9, Or.inr (Or.inl rfl), e⟩)
    obtain ⟨a, b, rfl, ⟨a, b2, rfl, ⟨a, b3, rfl, rfl, ⟨x, hx, rfl⟩⟩, ⟨y, hy, rfl⟩⟩, rfl⟩ := h
    exact ⟨rfl, x, y, hx, hy, rfl⟩
  · split
    · exact (gm.nm (k := 10) rfl (fun v vt h => ⟨h, rfl⟩)).w (by omega) (fun ks e => ⟨10, Or.inr (Or.inr rfl), e⟩)
    · exact gm.simple.w (by omega) (fun ks e => ⟨8, Or.inl rfl, e⟩)
abbrev al (k : Nat) (ks : List Nat) : Prop := ∀ x, x ∈ ks → x = k
theorem al.app {k : Nat} {a b : List Nat} (h : al k a) (h2 : al k b) : al k (a ++ b) := fun x hx => (List.mem_append.mp hx).elim (h x) (h2 x)
theorem al.one (k : Nat) : al k [k] := fun x hx => List.mem_singleton.mp hx
theorem gm.names {m0 : yM} {T : Nat} : ∀ n t o, gm m0 T 1 (al 6) t (p_names m0 n t o)
  | 0, t, o => gm.u.w (Nat.le_refl _) (fun ks e x hx => by rw [e] at hx; simp at hx)
  | n + 1, t, o => by
    show gm m0 T 1 (al 6) t (if m0.1 9 t = 172 then p_bind (p_bind (p_step m0 t o) (fun t o => p_leaf m0 64 6 (m0.1 11 t) (t + 1) t o)) (p_names m0 n) else .inl (t, o, []))
    split
    · have a := (gm.st (m0 := m0) (T := T) (t := t) (o := o) (fun t1 o1 => gm.nm (k := 6) (t := t1) (o := o1) (kd := 6) rfl (fun v vt h => ⟨h, rfl⟩))).bind (fun t1 o1 => gm.names n t1 o1)
      refine (a.b (by omega)).w (Nat.le_refl _) (fun ks h => ?_)
      obtain ⟨a, b, rfl, rfl, h⟩ := h
      exact (al.one 6).app h
    · exact gm.u.w (Nat.le_refl _) (fun ks e x hx => by rw [e] at hx; simp at hx)
theorem gm.at {m0 : yM} {T t o : Nat} : gm m0 T 1 (fun ks => ks = [] ∨ ks = [7]) t (p_at m0 t o) := by
  unfold p_at
  split
  · refine ((gm.st (P := is1 7) (fun t1 o1 => gm.lf (k := 7) rfl (fun lt z => ⟨rfl, rfl, t1, lt, z, rfl⟩))).b (by omega)).w (Nat.le_refl _) (fun ks e => Or.inr e)
  · exact gm.u.w (Nat.le_refl _) (fun ks e => Or.inl e)
theorem gm.init {m0 : yM} {T t o : Nat} : gm m0 T 1 iniK t (p_init m0 t o) := by
  unfold p_init
  split
  · exact ((gm.st (f := p_const m0) (fun _ _ => gm.const)).b (by omega)).w (Nat.le_refl _) (fun ks h => Or.inr h)
  · exact gm.u.w (Nat.le_refl _) (fun ks e => Or.inl e)
theorem gm.decl {m0 : yM} {T t o : Nat} : gm m0 T 3 (is1 5) t (p_decl m0 t o) := by
  unfold p_decl
  have n2 : ∀ {N N' : Nat} {P : List Nat → Prop} {t : Nat} {X : PX}, N ≤ N' → gm m0 T N P t X → gm m0 T N' P t X := fun hN h => h.w hN (fun _ z => z)
  have a0 := n2 (show 1 ≤ 2 by omega) (gm.nm (m0 := m0) (T := T) (k := 6) (t := t) (o := o) (kd := 6) rfl (fun v vt h => ⟨h, rfl⟩))
  have a := (((((a0.bind (f := p_names m0 8192) (fun t1 o1 => n2 (show 1 ≤ 2 by omega) (gm.names 8192 t1 o1))).bind (f := p_at m0) (fun _ _ => n2 (show 1 ≤ 2 by omega) gm.at)).s (k := 186)).bind (f := p_type m0) (fun _ _ => gm.type)).bind (f := p_init m0) (fun _ _ => n2 (show 1 ≤ 2 by omega) gm.init)).s (k := 187)
  refine gm.nd0 (k := 5) a rfl (fun ks h => ?_)
  obtain ⟨a, ini, rfl, ⟨a, b2, rfl, ⟨a, pl, rfl, ⟨a, n, rfl, rfl, hn⟩, hpl⟩, ⟨ty, hty, rfl⟩⟩, hini⟩ := h
  exact ⟨rfl, n, pl, ty, ini, by simp, hn, hpl, hty, hini⟩
theorem gm.decls {m0 : yM} {T : Nat} : ∀ n t o, gm m0 T 3 (al 5) t (p_decls m0 n t o)
  | 0, t, o => gm.u.w (Nat.le_refl _) (fun ks e x hx => by rw [e] at hx; simp at hx)
  | n + 1, t, o => (gm.pif (c := 64) (f := fun t o => p_bind (p_decl m0 t o) (p_decls m0 n)) (gm.decl.bind (fun t1 o1 => gm.decls n t1 o1))).w (Nat.le_refl _) (fun ks h => by
    rcases h with rfl | ⟨a, b, rfl, rfl, h⟩
    · intro x hx; simp at hx
    · exact (al.one 5).app h)
theorem gm.sect {m0 : yM} {T t o : Nat} (hv : ¬ (m0.1 9 t < 6 ∨ 8 < m0.1 9 t)) : gm m0 T 4 (is1 4) t (p_sect m0 t o) := by
  unfold p_sect
  have hv : m0.1 9 t - 6 = 0 ∨ m0.1 9 t - 6 = 1 ∨ m0.1 9 t - 6 = 2 := by
    have z1 : ¬ m0.1 9 t < 6 := fun y => hv (Or.inl y)
    have z2 : ¬ 8 < m0.1 9 t := fun y => hv (Or.inr y)
    generalize m0.1 9 t = x at z1 z2
    have z1 : ¬ x.toInt < 6 := fun y => z1 (Int32.lt_iff_toInt_lt.mpr y)
    have z2 : ¬ 8 < x.toInt := fun y => z2 (Int32.lt_iff_toInt_lt.mpr y)
    have c : x.toInt = 6 ∨ x.toInt = 7 ∨ x.toInt = 8 := by omega
    rcases c with c | c | c
    · left; rw [show x = 6 from Int32.toInt_inj.mp c]; decide
    · right; left; rw [show x = 7 from Int32.toInt_inj.mp c]; decide
    · right; right; rw [show x = 8 from Int32.toInt_inj.mp c]; decide
  exact gm.nd0 (k := 4) ((gm.st (fun t1 o1 => gm.decls 8192 t1 o1)).s.b (by omega)) rfl (fun ks h => ⟨rfl, hv, h⟩)
theorem gm.sects {m0 : yM} {T : Nat} : ∀ n t o, gm m0 T 4 (al 4) t (p_sects m0 n t o)
  | 0, t, o => gm.u.w (Nat.le_refl _) (fun ks e x hx => by rw [e] at hx; simp at hx)
  | n + 1, t, o => by
    rw [p_sects_s]
    split
    · exact gm.u.w (Nat.le_refl _) (fun ks e x hx => by rw [e] at hx; simp at hx)
    · rename_i z
      refine ((gm.sect z).bind (fun t1 o1 => gm.sects n t1 o1)).w (Nat.le_refl _) (fun ks h => ?_)
      obtain ⟨a, b, rfl, rfl, h⟩ := h
      exact (al.one 4).app h
