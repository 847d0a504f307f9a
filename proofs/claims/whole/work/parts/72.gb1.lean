/-! THE TREE BY NUMBERS: a node's kind, value, token, and what is below it -/
def kK (F : List ND) (n : Nat) : Nat := ((F.getD n (0, 0, 0, 0, 1)).1).toNatClampNeg
def vF (F : List ND) (n : Nat) : Int32 := (F.getD n (0, 0, 0, 0, 1)).2.2.1
def vtF (F : List ND) (n : Nat) : Nat := (F.getD n (0, 0, 0, 0, 1)).2.2.2.1
/-- these trees lie one behind the other from i to e -/
def tile (F : List ND) : List Nat → Nat → Nat → Prop
  | [] => fun i e => i = e
  | c :: L => fun i e => c = i ∧ tile F L (i + szF F i) e
theorem tile.le {F : List ND} : ∀ {L : List Nat} {i e : Nat}, tile F L i e → i ≤ e
  | [], i, e, h => by have h : i = e := h; omega
  | c :: L, i, e, h => by have := tile.le h.2; omega
theorem tile.kds {F : List ND} : ∀ {L : List Nat} {i e k : Nat}, tile F L i e → (∀ c, c ∈ L → 0 < szF F c) → e ≤ i + k → kds F e k i = L
  | [], i, e, k, h, _, _ => by have h : i = e := h; exact kds_n F e k i (by omega)
  | c :: L, i, e, k, h, hp, hk => by
    obtain ⟨rfl, h2⟩ := h
    have p0 := hp c (List.mem_cons_self)
    have le := tile.le h2
    obtain ⟨k, rfl⟩ : ∃ j, k = j + 1 := ⟨k - 1, by omega⟩
    rw [kds_c F e k c (by omega), tile.kds h2 (fun x hx => hp x (List.mem_cons_of_mem _ hx)) (by omega)]
theorem tile.mem {F : List ND} : ∀ {L : List Nat} {i e : Nat}, tile F L i e → ∀ c, c ∈ L → i ≤ c ∧ c + szF F c ≤ e
  | [], i, e, h, c, hc => by simp at hc
  | c :: L, i, e, h, x, hx => by
    obtain ⟨rfl, h2⟩ := h
    have le := tile.le h2
    rcases List.mem_cons.mp hx with rfl | y
    · omega
    · have := tile.mem h2 x y
      omega
/-- a tree no deeper than N begins at n -/
def TW (m0 : yM) (T : Nat) (F : List ND) : Nat → Nat → Prop
  | 0 => fun _ => False
  | N + 1 => fun n => n + szF F n ≤ F.length ∧ 0 < szF F n ∧ (F.getD n (0, 0, 0, 0, 1)).1 = nI (kK F n) ∧ kK F n < 37 ∧ okN m0 T (kK F n) (vF F n) (vtF F n) ((kids F n).map (kK F)) ∧ tile F (kids F n) (n + 1) (n + szF F n) ∧ ∀ c, c ∈ kids F n → TW m0 T F N c
def sub (F : List ND) (a : Nat) (G : List ND) : Prop := ∀ (i : Nat) (q : ND), G[i]? = some q → F[a + i]? = some q
theorem okN.lt {m0 : yM} {T k : Nat} {v : Int32} {vt : Nat} {ks : List Nat} (h : okN m0 T k v vt ks) : k < 37 := by
  rcases Nat.lt_or_ge k 37 with y | y
  · exact y
  · obtain ⟨j, rfl⟩ : ∃ j, k = j + 37 := ⟨k - 37, by omega⟩
    exact absurd h (fun z => z)
theorem sub.at {F : List ND} {a : Nat} {G : List ND} {q : ND} {d : ND} (h : sub F a (q :: G)) : F.getD a d = q ∧ a < F.length := by
  have := h 0 q rfl
  rw [Nat.add_zero] at this
  exact ⟨by rw [List.getD_eq_getElem?_getD, this]; rfl, (List.getElem?_eq_some_iff.mp this).1⟩
theorem sub.len {F : List ND} {a : Nat} {G : List ND} (h : sub F a G) (h0 : 0 < G.length) : a + G.length ≤ F.length := by
  have := h (G.length - 1) _ (List.getElem?_eq_getElem (by omega))
  have := (List.getElem?_eq_some_iff.mp this).1
  omega
theorem sub.l {F : List ND} {a : Nat} {G H : List ND} (h : sub F a (G ++ H)) : sub F a G := fun i q e => h i q (by
  rw [List.getElem?_append_left (List.getElem?_eq_some_iff.mp e).1]; exact e)
theorem sub.r {F : List ND} {a : Nat} {G H : List ND} (h : sub F a (G ++ H)) : sub F (a + G.length) H := fun i q e => by
  have := h (G.length + i) q (by rw [List.getElem?_append_right (by omega), Nat.add_sub_cancel_left]; exact e)
  rw [← this]
  congr 1
  omega
theorem sub.c {F : List ND} {a : Nat} {q : ND} {G : List ND} (h : sub F a (q :: G)) : sub F (a + 1) G := fun i x e => by
  have := h (i + 1) x (by rw [List.getElem?_cons_succ]; exact e)
  rw [← this]
  congr 1
  omega
theorem GT.ne {m0 : yM} {T N k : Nat} {G : List ND} (h : GT m0 T N k G) : 0 < G.length := by
  cases N with
  | zero => exact absurd h (fun z => z)
  | succ N =>
    obtain ⟨p, v, vt, Cs, rfl, _⟩ := h
    simp
theorem nIcl {k : Nat} (h : k < 37) : (nI k).toNatClampNeg = k := nI_clamp (by omega)
/-- the trees of a forest, by numbers -/
theorem GF.go {m0 : yM} {T N : Nat} {F : List ND} (ih : ∀ (k : Nat) (G : List ND) (a : Nat), GT m0 T N k G → sub F a G → TW m0 T F N a ∧ kK F a = k ∧ szF F a = G.length) : ∀ (Cs : List (Nat × List ND)) (b : Nat), (∀ c, c ∈ Cs → GT m0 T N c.1 c.2) → sub F b (Cs.map Prod.snd).flatten → ∃ L : List Nat, tile F L b (b + (Cs.map Prod.snd).flatten.length) ∧ L.map (kK F) = Cs.map Prod.fst ∧ (∀ c, c ∈ L → TW m0 T F N c ∧ 0 < szF F c) := by
  intro Cs
  induction Cs with
  | nil => intro b _ _; exact ⟨[], by simp [tile], rfl, fun c hc => by simp at hc⟩
  | cons c Cs ihc =>
    intro b hc hs
    simp only [List.map_cons, List.flatten_cons] at hs
    obtain ⟨t1, t2, t3⟩ := ih c.1 c.2 b (hc c List.mem_cons_self) hs.l
    have ne := (hc c List.mem_cons_self).ne
    obtain ⟨L, l1, l2, l3⟩ := ihc (b + c.2.length) (fun x hx => hc x (List.mem_cons_of_mem _ hx)) hs.r
    refine ⟨b :: L, ?_, by simp [t2, l2], fun x hx => ?_⟩
    · refine ⟨rfl, ?_⟩
      rw [t3]
      simp only [List.map_cons, List.flatten_cons, List.length_append]
      rw [← Nat.add_assoc]
      exact l1
    · rcases List.mem_cons.mp hx with rfl | y
      · exact ⟨t1, by omega⟩
      · exact l3 x y
theorem GT.tw {m0 : yM} {T : Nat} {F : List ND} : ∀ (N k : Nat) (G : List ND) (a : Nat), GT m0 T N k G → sub F a G → TW m0 T F N a ∧ kK F a = k ∧ szF F a = G.length := by
  intro N
  induction N with
  | zero => intro k G a h; exact absurd h (fun z => z)
  | succ N ih =>
    intro k G a h hs
    obtain ⟨p, v, vt, Cs, rfl, ho, hc⟩ := h
    have kl := ho.lt
    obtain ⟨e0, al⟩ := hs.at (d := (0, 0, 0, 0, 1))
    have e1 : kK F a = k := by unfold kK; rw [e0]; exact nIcl kl
    have e2 : szF F a = (Cs.map Prod.snd).flatten.length + 1 := by unfold szF; rw [e0]
    have e3 : vF F a = v := by unfold vF; rw [e0]
    have e4 : vtF F a = vt := by unfold vtF; rw [e0]
    have ln := hs.len (by simp)
    rw [List.length_cons] at ln
    obtain ⟨L, l1, l2, l3⟩ := GF.go ih Cs (a + 1) hc hs.c
    have ek : kids F a = L := by
      unfold kids
      rw [e2]
      refine tile.kds ?_ (fun c hc => (l3 c hc).2) (by omega)
      rw [show a + ((Cs.map Prod.snd).flatten.length + 1) = a + 1 + (Cs.map Prod.snd).flatten.length by omega]
      exact l1
    refine ⟨⟨by rw [e2]; omega, by omega, by rw [e0, e1], by omega, ?_, ?_, fun c hc => ?_⟩, e1, by rw [e2, List.length_cons]⟩
    · rw [e1, e3, e4, ek, l2]
      exact ho
    · rw [ek, e2, show a + ((Cs.map Prod.snd).flatten.length + 1) = a + 1 + (Cs.map Prod.snd).flatten.length by omega]
      exact l1
    · rw [ek] at hc
      exact (l3 c hc).1
/-- the kinds below a node -/
theorem GF.kdm {m0 : yM} {T N : Nat} {F : List ND} {ks : List Nat} {G : List ND} {a : Nat} (h : GF m0 T N ks G) (hs : sub F (a + 1) G) (e2 : szF F a = G.length + 1) : (kids F a).map (kK F) = ks := by
  obtain ⟨Cs, rfl, rfl, hc⟩ := h
  obtain ⟨L, l1, l2, l3⟩ := GF.go (fun k G a => GT.tw N k G a) Cs (a + 1) hc hs
  have ek : kids F a = L := by
    unfold kids
    rw [e2]
    refine tile.kds ?_ (fun c hc => (l3 c hc).2) (by omega)
    rw [show a + ((Cs.map Prod.snd).flatten.length + 1) = a + 1 + (Cs.map Prod.snd).flatten.length by omega]
    exact l1
  rw [ek, l2]
theorem sub.re (F : List ND) : sub F 0 F := fun i q e => by rw [Nat.zero_add]; exact e
theorem text_tw {m0 : yM} {T N n t o : Nat} {F : List ND} (hT : TKok m0 T) (e : p_text m0 N n = some (.inl (t, o, F))) : TW m0 T F 187 0 ∧ kK F 0 = 0 ∧ szF F 0 = F.length ∧ VI 0 T F := by
  obtain ⟨h1, h2⟩ := p_text_gt hT e
  obtain ⟨a, b, c⟩ := GT.tw 187 0 F 0 h1 (sub.re F)
  exact ⟨a, b, c, h2⟩
