/-! THE REFERENCE'S RULES: a call -/
/-- a FUNCTION's first variable is what it gives -/
def PF (σ : RS) : Prop := ∀ b, b < σ.1.length → (σ.1.getD b dBK).1 = 1 → (σ.1.getD b dBK).2.2.2.2 < σ.2.1.length ∧ (vD σ (σ.1.getD b dBK).2.2.2.2).1 = 3
/-- the nodes below stand behind each other -/
def kdN (F : List ND) (n : Nat) : Prop := (∀ c, (kids F n)[0]? = some c → c = n + 1) ∧ ∀ j c e : Nat, (kids F n)[j]? = some c → (kids F n)[j + 1]? = some e → e = c + szF F c
theorem owT_c (F : List ND) (σ : RS) (b : Nat) : ∀ k v p, owT F σ b k v p = -1 ∨ owT F σ b k v p = tyV σ (σ.1.getD b dBK).2.2.2.2
  | 0, v, p => Or.inr rfl
  | k + 1, v, p => by
    have es : owT F σ b (k + 1) v p = (if (vD σ v).1 = 1 then (if ftP (σ.2.2.2.2 p) (tyV σ v) then owT F σ b k (v + 1) (p + szF F p) else -1) else owT F σ b k (v + 1) p) := rfl
    rw [es]
    split
    · split
      · exact owT_c F σ b k (v + 1) _
      · exact Or.inl rfl
    · exact owT_c F σ b k (v + 1) p
theorem c357L (xs : List Int32) (d : Nat) {J : JV} {σ : RS} {m : yM} (hT : JT J m) (hR : RB J σ m) (hP : PV σ) (hD : allD σ) {n b : Nat} (hn : n < J.2.2.1.length) (hb : b + 1 < σ.1.length) (tf : ty3 (tyV σ (σ.1.getD b dBK).2.2.2.2)) (hk : kdN J.2.2.1 n) (ho : ∀ i, i ∈ kids J.2.2.1 n → opK J σ m n i) {Q : Option Value → yM → Prop} : ∀ (k v j p : Nat) (l4 : Int32), v + k = endV σ b → (kids J.2.2.1 n).length = j + cnN σ k v → (∀ c, (kids J.2.2.1 n)[j]? = some c → c = p) → (l4 = 0 ∨ l4 = 1) → yP (xg xs) (d + 2) 357 228 [(0, .ref 58), (1, .int (nI (J.2.2.2 n))), (2, .int (nI (b + 100)))] [.int (if l4 = 1 ∧ ¬ owT J.2.2.1 σ b k v p = -1 then 0 else 1), .int (26 : Int32), .ref 58] m Q → yP (xg xs) (d + 2) 357 143 [(0, .ref 58), (1, .int (nI (J.2.2.2 n))), (2, .int (nI (b + 100))), (4, .int l4), (5, .int (lkI J.2.2.2 (kids J.2.2.1 n)[j]?)), (6, .int (nI v))] [] m Q := by
  have n1 := hR.nB.2
  have n2 := hR.nV.2
  have el := hR.e b
  have b1 := (hR.b hb).2.2.2.2.1
  have eE : endV σ b = (σ.1.getD (b + 1) dBK).2.2.2.2 := by unfold endV; rw [if_pos hb]
  rw [← eE] at b1
  have e99 : nI (b + 100) - 99 = nI (b + 1) := nI_sub (b := 99) (show 99 ≤ b + 100 by omega)
  have c99 : (nI (b + 1)).toNatClampNeg = b + 1 := nI_clamp (by omega)
  intro k
  induction k with
  | zero =>
    intro v j p l4 hv hc hp h4 K
    refine w357_143 xs (d + 1) _ _ _ _ _ m _ ⟨?_, ?_⟩
    · rw [e99]; exact x_in_nI (by omega) (by decide)
    · rw [e99, c99, b1]
      have ntf : ¬ owT J.2.2.1 σ b 0 v p = -1 := by
        show ¬ tyV σ (σ.1.getD b dBK).2.2.2.2 = -1
        rcases tf with z | z | z <;> rw [z] <;> decide
      refine ⟨fun _ => ⟨fun z => ?_, fun z => ?_⟩, fun z => absurd (nI_le (by omega) (by omega)) z⟩
      · rw [if_pos ⟨h4.resolve_left z, ntf⟩] at K; exact K
      · rw [if_neg (fun y => by rw [z] at y; exact absurd y.1 (by decide))] at K; exact K
  | succ k ih =>
    intro v j p l4 hv hc hp h4 K
    have es : owT J.2.2.1 σ b (k + 1) v p = (if (vD σ v).1 = 1 then (if ftP (σ.2.2.2.2 p) (tyV σ v) then owT J.2.2.1 σ b k (v + 1) (p + szF J.2.2.1 p) else -1) else owT J.2.2.1 σ b k (v + 1) p) := rfl
    have en : cnN σ (k + 1) v = (if (vD σ v).1 = 1 then 1 else 0) + cnN σ k (v + 1) := rfl
    have vo := hD v (by omega)
    obtain ⟨vl, hvd⟩ := hR.d vo
    have xv : x_in (nI v) 4700 = true := x_in_nI (by omega) (by decide)
    have cv : (nI v).toNatClampNeg = v := nI_clamp (by omega)
    refine w357_143 xs (d + 1) _ _ _ _ _ m _ ⟨?_, ?_⟩
    · rw [e99]; exact x_in_nI (by omega) (by decide)
    · rw [e99, c99, b1]
      refine ⟨fun z => absurd ((nI_leI (by omega) (by omega)).mp z) (by omega), fun _ => ⟨xv, ?_⟩⟩
      rw [cv, hvd.1]
      refine ⟨fun z => ?_, fun z => ?_⟩
      · rw [es, if_neg z] at K
        rw [en, if_neg z, Nat.zero_add] at hc
        refine w357_209 xs (d + 1) _ _ _ _ _ m _ ?_
        rw [nI_1]
        exact ih (v + 1) j p l4 (by omega) hc hp h4 K
      · rw [es, if_pos z] at K
        rw [en, if_pos z] at hc
        obtain ⟨c, ec⟩ : ∃ c, (kids J.2.2.1 n)[j]? = some c := ⟨_, getD_some (d := 0) (by omega)⟩
        have := hp c ec
        subst this
        have oc := ho c (List.mem_of_getElem? ec)
        have xc := hT.x oc.1
        have cc := hT.c oc.1
        have l5 : lkI J.2.2.2 (kids J.2.2.1 n)[j]? = nI (J.2.2.2 c) := by rw [ec]; rfl
        have f8 : frm σ v = 8 := (hP.1 v vo).2.1 (by rw [z]; decide)
        rw [l5]
        have s198 : ∀ u : Int32, (u = 0 ∨ u = 1) → (u = 1 ↔ (l4 = 1 ∧ ftP (σ.2.2.2.2 c) (tyV σ v))) → yP (xg xs) (d + 2) 357 198 [(0, .ref 58), (1, .int (nI (J.2.2.2 n))), (2, .int (nI (b + 100))), (5, .int (nI (J.2.2.2 c))), (6, .int (nI v))] [.int u] m Q := by
          intro u hu iff
          refine w357_198 xs (d + 1) _ _ _ _ _ m _ ⟨xc, w357_209 xs (d + 1) _ _ _ _ _ m _ ?_⟩
          rw [cc, (hT.kc hn ec).2.2, nI_1]
          refine ih (v + 1) (j + 1) (c + szF J.2.2.1 c) u (by omega) (by omega) (fun e he => hk.2 j c e ec he) hu ?_
          by_cases q : ftP (σ.2.2.2.2 c) (tyV σ v)
          · rw [if_pos q] at K
            by_cases q4 : l4 = 1
            · rw [iff.mpr ⟨q4, q⟩]; rw [q4] at K; exact K
            · rw [if_neg (fun y => q4 y.1)] at K
              rw [if_neg (fun y => q4 (iff.mp y.1).1)]; exact K
          · rw [if_neg q, if_neg (fun y => y.2 rfl)] at K
            rw [if_neg (fun y => q (iff.mp y.1).2)]; exact K
        refine ⟨fun z4 => w357_197 xs (d + 1) _ _ _ _ m _ (s198 0 (Or.inl rfl) ⟨fun y => absurd y (by decide), fun y => by rw [z4] at y; exact absurd y.1 (by decide)⟩), fun z4 => ⟨xc, xv, ?_⟩⟩
        rw [cc, oc.2.2.1, tyV_r hvd (Or.inl f8)]
        refine y_ci (c343 xs d m _ _) (by omega) ⟨fun w => w357_197 xs (d + 1) _ _ _ _ m _ (s198 0 (Or.inl rfl) ⟨fun y => absurd y (by decide), fun y => absurd y.2 (if0 w)⟩), fun w => s198 1 (Or.inr rfl) ⟨fun _ => ⟨h4.resolve_left z4, if1 w⟩, fun _ => rfl⟩⟩
theorem kds_len (F : List ND) (e : Nat) : ∀ k i, (kds F e k i).length ≤ k
  | 0, i => Nat.le_refl _
  | k + 1, i => by
    show (if i < e then i :: kds F e k (i + szF F i) else []).length ≤ k + 1
    split
    · have := kds_len F e k (i + szF F i)
      rw [List.length_cons]
      omega
    · exact Nat.zero_le _
theorem c354_34 (xs : List Int32) (d : Nat) {J : JV} (hO : JO J) {D : Nat → Prop} {σ : RS} {m : yM} (h : RJ J D σ m) (h0 : 0 < σ.1.length) (hd : dsN σ) (hP : PV σ) (hF : PF σ) (hD : allD σ) {n : Nat} (hn : n < J.2.2.1.length) (hk : kdN J.2.2.1 n) (ho : ∀ i, i ∈ kids J.2.2.1 n → D i ∧ exK (kK J.2.2.1 i) ∧ ty3 (σ.2.2.2.2 i) ∧ n < i) (kn : kK J.2.2.1 n = 34) (ks : σ.2.2.1 n = 34) (hvt : ¬ vtF J.2.2.1 n = 0) (hv : σ.2.2.2.1 n = vF J.2.2.1 n) (hz : szF J.2.2.1 n ≤ 16400) (hM : ∀ b, b + 1 < σ.1.length → (σ.1.getD b dBK).2.2.2.2 ≤ (σ.1.getD (b + 1) dBK).2.2.2.2) : yC (xg xs) (d + 7) 354 [.ref 58, .int (nI (J.2.2.2 n)), .int 34] m (JQ J (fun i => D i ∨ i = n) m n (lkCall J.2.2.1 σ n)) := by
  have hT := h.1
  have hR := h.2.1
  have hB := hR.nB.2
  have nv2 := hR.nV.2
  have ei := hT.c hn
  have xi := hT.x hn
  have f0 := hR.f0
  have op : ∀ i, i ∈ kids J.2.2.1 n → opK J σ m n i := by
    intro i hi
    obtain ⟨d1, d2, d3, d4⟩ := ho i hi
    obtain ⟨n1, nv⟩ := h.n d1
    obtain ⟨t1, t2, t3⟩ := nv.1 d2
    exact ⟨n1, fun z => by have := hT.2.2.1 _ _ n1 hn z; omega, t1, t2, t3, d3⟩
  have m69 := (hT.2.1 n hn).2.2.2.2.2.2.2.1
  have l16 : (kids J.2.2.1 n).length ≤ 16400 := Nat.le_trans (kds_len _ _ _ _) hz
  refine w354_0 xs (d + 6) _ _ m _ ⟨fun w => absurd w (by decide), fun w => absurd w (by decide), fun w => absurd w (by decide), fun w => absurd w (by decide), fun _ => ?_, fun w => absurd w (by decide), fun _ _ _ _ w => absurd rfl w⟩
  obtain ⟨y, cy, hy⟩ := c358 xs d hO hT hR h0 hd hn hvt
  refine y_jq (d := d + 6) (w357_0 xs (d + 5) _ m _ (y_ci cy (by omega) ?_)) (Nat.le_refl _)
  rw [← hv] at hy
  have fR : ∀ {c : Int32} {m1 : yM}, FE J c n m1 → ¬ m1.1 58 3 ≤ 0 := fun fe => fe.nle
  rcases hy with ⟨q1, rfl⟩ | ⟨s, s1, s2, rfl⟩ | ⟨b, b1, b2, rfl, b4⟩
  · refine ⟨fun z => absurd rfl z, fun _ => w357_19 xs (d + 5) _ _ _ _ m _ (rl1 (by omega) hT hn f0 ?_)⟩
    have fe := FE.mk J m (show (0 : Int32) < 24 by decide) n
    refine ⟨fun z => absurd z fe.nle, fun _ => ?_⟩
    unfold lkCall
    rw [if_pos q1]
    exact ⟨rfl, (JK.re m).fl J 24 n, fe⟩
  · have ny : ¬ nI s = -1 := nI_m1 (by omega)
    have l100 : nI s < 100 := nI_lt (b := 100) (by omega) (by omega)
    generalize hm2 : y_si m 85 (J.2.2.2 n) (nI s) = m2
    have jk2 : JK m m2 := by rw [← hm2]; exact (JK.re m).si (by omega)
    have hT2 := hT.k jk2
    have f2 : m2.1 58 3 = 0 := by rw [← hm2, y_si_at, if_neg (by omega)]; exact f0
    have a69 : m2.1 69 (J.2.2.2 n) = nI (kids J.2.2.1 n).length := (hT2.2.1 n hn).2.2.2.2.2.2.2.1
    -- how many
    have s84 : ∀ w : Nat, w < 4 → 0 < w → xar_5.getD s 0 = nI w → (w = 1 → ([0, 7, 8, 9] : List Nat).contains s = true) → (w = 2 → ([1, 2, 5, 6] : List Nat).contains s = true) → (w = 3 → ([3, 4] : List Nat).contains s = true) → yP (xg xs) (d + 6) 357 84 [(0, .ref 58), (1, .int (nI (J.2.2.2 n))), (2, .int (nI s))] [.int (nI w)] m2 (JQ J (fun i => D i ∨ i = n) m n (lkCall J.2.2.1 σ n)) := by
      intro w w4 w0 ew w1 w2 w3
      have n10 : ¬ 10 ≤ nI s := fun z => by
        have := (nI_leI (a := 10) (by omega) (by omega)).mp z
        omega
      refine w357_84 xs (d + 5) _ _ _ m2 _ ⟨xi, ?_⟩
      rw [ei, a69]
      refine ⟨fun z => w357_103 xs (d + 5) _ _ _ _ m2 _ (rl0 ⟨fun _ => ⟨fun _ => ⟨xi, xi, ?_⟩, fun y => absurd l100 y⟩, fun y => absurd (by rw [f2]; decide) y⟩), fun z => w357_103 xs (d + 5) _ _ _ _ m2 _ (rl1 (by omega) hT2 hn f2 ?_)⟩
      · have el := (nI_eq (by omega) (by omega)).mp z
        have k0 := getD_some (d := 0) (show 0 < (kids J.2.2.1 n).length by omega)
        have e1 := hk.1 _ k0
        rw [e1] at k0
        rw [ei, a69, hT2.k0 hn k0]
        have o1 := op _ (List.mem_of_getElem? k0)
        have x1 := hT.x o1.1
        have c1 := hT.c o1.1
        rw [c1]
        have fin : ∀ k2 k3, kdS J.2.2.1 n s k2 k3 → opK J σ m n k2 → opK J σ m n k3 → (¬ kd2 J.2.2.1 n = n) → (¬ kd3 J.2.2.1 n = n) → yP (xg xs) (d + 6) 357 314 [(0, .ref 58), (1, .int (nI (J.2.2.2 n))), (2, .int (nI s)), (4, .int (nI (J.2.2.2 (n + 1)))), (5, .int (nI (J.2.2.2 k2)))] [.int (nI (J.2.2.2 k3))] m2 (JQ J (fun i => D i ∨ i = n) m n (lkCall J.2.2.1 σ n)) := by
          intro k2 k3 hs o2 o3 n2 n3
          rw [hs.res s1 s2 o1.2.2.2.2.2 o2.2.2.2.2.2 o3.2.2.2.2.2 n2 n3]
          exact c357t xs (d + 2) h hn kn ks s1 hm2.symm o1 o2 o3
        have nd2 : ¬ kd2 J.2.2.1 n = n := by unfold kd2; omega
        have nd3 : ¬ kd3 J.2.2.1 n = n := by unfold kd3 kd2; omega
        rcases (show w = 1 ∨ w = 2 ∨ w = 3 by omega) with rfl | rfl | rfl
        · have hK : kids J.2.2.1 n = [n + 1] := by
            rcases hq : kids J.2.2.1 n with _ | ⟨a, _ | ⟨b, L⟩⟩
            · rw [hq] at el; exact absurd el (by simp)
            · rw [hq] at k0; simp at k0; rw [k0]
            · rw [hq] at el; simp at el
          rw [el]
          refine ⟨fun _ => w357_290 xs (d + 5) _ _ _ _ m2 _ ⟨xi, ?_⟩, fun y => absurd (show nI 1 ≤ 1 from by decide) y⟩
          rw [ei, a69, el]
          exact ⟨fun _ => fin _ _ (Or.inl ⟨w1 rfl, hK, rfl, rfl⟩) o1 o1 nd2 nd3, fun y => absurd (show nI 1 ≤ 2 from by decide) y⟩
        · have k1 := getD_some (d := 0) (show 1 < (kids J.2.2.1 n).length by omega)
          have e2 := hk.2 0 _ _ k0 k1
          rw [e2] at k1
          have hK : kids J.2.2.1 n = [n + 1, kd2 J.2.2.1 n] := by
            rcases hq : kids J.2.2.1 n with _ | ⟨a, _ | ⟨b, _ | ⟨c, L⟩⟩⟩
            · rw [hq] at el; exact absurd el (by simp)
            · rw [hq] at el; exact absurd el (by simp)
            · rw [hq] at k0 k1; simp at k0 k1; rw [k0, k1]
            · rw [hq] at el; simp at el
          have o2 := op _ (List.mem_of_getElem? k1)
          have a68 : m2.1 68 (J.2.2.2 (n + 1)) = nI (J.2.2.2 (kd2 J.2.2.1 n)) := by rw [(hT2.kc hn k0).2.2, k1]; rfl
          rw [el]
          refine ⟨fun y => absurd y (show ¬ nI 2 ≤ 1 from by decide), fun _ => ⟨x1, ?_⟩⟩
          rw [a68]
          refine w357_290 xs (d + 5) _ _ _ _ m2 _ ⟨xi, ?_⟩
          rw [ei, a69, el]
          exact ⟨fun _ => fin _ _ (Or.inr (Or.inl ⟨w2 rfl, hK, rfl, rfl⟩)) o2 o2 nd2 nd3, fun y => absurd (show nI 2 ≤ 2 from by decide) y⟩
        · have k1 := getD_some (d := 0) (show 1 < (kids J.2.2.1 n).length by omega)
          have e2 := hk.2 0 _ _ k0 k1
          rw [e2] at k1
          have k2 := getD_some (d := 0) (show 2 < (kids J.2.2.1 n).length by omega)
          have e3 := hk.2 1 _ _ k1 k2
          rw [e3] at k2
          have hK : kids J.2.2.1 n = [n + 1, kd2 J.2.2.1 n, kd3 J.2.2.1 n] := by
            rcases hq : kids J.2.2.1 n with _ | ⟨a, _ | ⟨b, _ | ⟨c, _ | ⟨c', L⟩⟩⟩⟩
            · rw [hq] at el; exact absurd el (by simp)
            · rw [hq] at el; exact absurd el (by simp)
            · rw [hq] at el; exact absurd el (by simp)
            · rw [hq] at k0 k1 k2; simp at k0 k1 k2; rw [k0, k1, k2]
            · rw [hq] at el; simp at el
          have o2 := op _ (List.mem_of_getElem? k1)
          have o3 := op _ (List.mem_of_getElem? k2)
          have a68 : m2.1 68 (J.2.2.2 (n + 1)) = nI (J.2.2.2 (kd2 J.2.2.1 n)) := by rw [(hT2.kc hn k0).2.2, k1]; rfl
          have b68 : m2.1 68 (J.2.2.2 (kd2 J.2.2.1 n)) = nI (J.2.2.2 (kd3 J.2.2.1 n)) := by rw [(hT2.kc hn k1).2.2, k2]; rfl
          rw [el]
          refine ⟨fun y => absurd y (show ¬ nI 3 ≤ 1 from by decide), fun _ => ⟨x1, ?_⟩⟩
          rw [a68]
          refine w357_290 xs (d + 5) _ _ _ _ m2 _ ⟨xi, ?_⟩
          rw [ei, a69, el]
          refine ⟨fun y => absurd y (show ¬ nI 3 ≤ 2 from by decide), fun _ => ⟨hT.x o2.1, ?_⟩⟩
          rw [hT.c o2.1, b68]
          exact fin _ _ (Or.inr (Or.inr ⟨w3 rfl, hK, rfl, rfl⟩)) o2 o3 nd2 nd3
      · have fe := FE.mk J m2 (show (0 : Int32) < 25 by decide) n
        refine ⟨fun z => absurd z fe.nle, fun _ => ?_⟩
        unfold lkCall
        rw [s2, if_neg ny, if_pos]
        · exact ⟨rfl, jk2.fl J 25 n, fe⟩
        · unfold wantC
          rw [if_neg n10, nI_clamp (by omega), ew]
          exact z
    refine ⟨fun _ => w357_19 xs (d + 5) _ _ _ _ m _ (rl0 ⟨fun _ => ⟨xi, fun _ => ?_, fun z => absurd l100 z⟩, fun z => absurd (by rw [f0]; decide) z⟩), fun z => absurd z ny⟩
    rw [ei, hm2]
    have iff : ∀ k, k < 1000 → (nI s = nI k ↔ s = k) := fun k hk => nI_n s1 hk
    have tb : ∀ s, s < 10 → ((s = 3 ∨ s = 4) → xar_5.getD s 0 = nI 3 ∧ ([3, 4] : List Nat).contains s = true) ∧ ((s = 0 ∨ s = 7 ∨ s = 8 ∨ s = 9) → xar_5.getD s 0 = nI 1 ∧ ([0, 7, 8, 9] : List Nat).contains s = true) ∧ ((s = 1 ∨ s = 2 ∨ s = 5 ∨ s = 6) → xar_5.getD s 0 = nI 2 ∧ ([1, 2, 5, 6] : List Nat).contains s = true) := by decide +kernel
    obtain ⟨t3, t1, t2⟩ := tb s s1
    have g3 : (s = 3 ∨ s = 4) → yP (xg xs) (d + 6) 357 65 [(0, .ref 58), (1, .int (nI (J.2.2.2 n))), (2, .int (nI s))] [] m2 (JQ J (fun i => D i ∨ i = n) m n (lkCall J.2.2.1 σ n)) := fun z => w357_65 xs (d + 5) _ _ m2 _ (s84 3 (by omega) (by omega) (t3 z).1 (fun y => by omega) (fun y => by omega) (fun _ => (t3 z).2))
    have g1 : (s = 0 ∨ s = 7 ∨ s = 8 ∨ s = 9) → yP (xg xs) (d + 6) 357 79 [(0, .ref 58), (1, .int (nI (J.2.2.2 n))), (2, .int (nI s))] [] m2 (JQ J (fun i => D i ∨ i = n) m n (lkCall J.2.2.1 σ n)) := fun z => w357_79 xs (d + 5) _ _ m2 _ (s84 1 (by omega) (by omega) (t1 z).1 (fun _ => (t1 z).2) (fun y => by omega) (fun y => by omega))
    refine ⟨fun z => g3 (Or.inl ((iff 3 (by omega)).mp z)), fun z => ⟨fun z4 => ⟨fun z0 => g1 (Or.inl ((iff 0 (by omega)).mp z0)), fun z0 => ⟨fun z6 => ?_, fun z6 => g1 ?_⟩⟩, fun z4 => g3 (Or.inr ((iff 4 (by omega)).mp z4))⟩⟩
    · have := (nI_leI (b := 6) (by omega) (by omega)).mp z6
      have a3 : ¬ s = 3 := fun y => z ((iff 3 (by omega)).mpr y)
      have a4 : ¬ s = 4 := fun y => z4 ((iff 4 (by omega)).mpr y)
      have a0 : ¬ s = 0 := fun y => z0 ((iff 0 (by omega)).mpr y)
      have q : s = 1 ∨ s = 2 ∨ s = 5 ∨ s = 6 := by omega
      exact s84 2 (by omega) (by omega) (t2 q).1 (fun y => by omega) (fun _ => (t2 q).2) (fun y => by omega)
    · have : ¬ s ≤ 6 := fun y => z6 (nI_le (b := 6) y (by omega))
      omega
  · have bl : b < σ.1.length := by omega
    obtain ⟨fl, f3⟩ := hF b bl b4
    have vo := hD _ fl
    obtain ⟨-, hvd⟩ := hR.d vo
    have f8 := (hP.1 _ vo).2.1 (by rw [f3]; decide)
    have tf := (hP.1 _ vo).2.2.1 (Or.inl f8)
    have fst := (hR.b bl).2.2.2.2
    generalize hfs : (σ.1.getD b dBK).2.2.2.2 = fs at *
    have ny : ¬ nI (b + 100) = -1 := nI_m1 (by omega)
    have e100 : nI (b + 100) - 100 = nI b := nI_sub (b := 100) (show 100 ≤ b + 100 by omega)
    have l100 : ¬ nI (b + 100) < 100 := fun z => by
      have := (nI_ltI (b := 100) (by omega) (by omega)).mp z
      omega
    have p10 : 10 ≤ nI (b + 10) := nI_le (a := 10) (by omega) (by omega)
    have s10 : nI (b + 10) - 10 = nI b := nI_sub (b := 10) (show 10 ≤ b + 10 by omega)
    have cb : (nI b).toNatClampNeg = b := nI_clamp (by omega)
    unfold lkCall wantC typC
    rw [b2, if_neg (nI_m1 (by omega)), if_pos p10, if_pos p10, s10, cb, hfs, if_neg (show ¬ (¬ 10 ≤ nI (b + 10) ∧ (kids J.2.2.1 n).all (cnB (setT (setV σ n (nI (b + 10))) n (owT J.2.2.1 σ b (endV σ b - fs) fs (n + 1)))) = true) from fun z => z.1 p10)]
    refine ⟨fun _ => w357_19 xs (d + 5) _ _ _ _ m _ (rl0 ⟨fun _ => ⟨xi, fun z => absurd z l100, fun _ => ?_⟩, fun z => absurd (by rw [f0]; decide) z⟩), fun z => absurd z ny⟩
    rw [ei, e100]
    generalize hm2 : y_si m 85 (J.2.2.2 n) (nI (b + 100)) = m2
    have jk2 : JK m m2 := by rw [← hm2]; exact (JK.re m).si (by omega)
    have hT2 := hT.k jk2
    have f2 : m2.1 58 3 = 0 := by rw [← hm2, y_si_at, if_neg (by omega)]; exact f0
    have a69 : m2.1 69 (J.2.2.2 n) = nI (kids J.2.2.1 n).length := (hT2.2.1 n hn).2.2.2.2.2.2.2.1
    have hR2 : RB J σ m2 := by rw [← hm2]; exact hR.fr (fun a i h1 h2 => by rw [y_si_at, if_neg (by omega)]) (fun i hi => by rw [y_si_at, if_neg (by omega)])
    have op2 : ∀ i, i ∈ kids J.2.2.1 n → opK J σ m2 n i := fun i hi => (op i hi).fr (fun a j z1 z2 z3 => by rw [← hm2, y_si_at, if_neg (fun z => z3 z.2)])
    refine y_ci (c329 xs (d + 4) hR2 hD bl) (by omega) (w357_84 xs (d + 5) _ _ _ m2 _ ⟨xi, ?_⟩)
    rw [ei, a69]
    refine ⟨fun z => ?_, fun z => ?_⟩
    · rw [if_neg (fun y => y z)]
      refine w357_103 xs (d + 5) _ _ _ _ m2 _ (rl0 ⟨fun _ => ⟨fun y => absurd y l100, fun _ => ⟨xi, ?_, ?_⟩⟩, fun y => absurd (by rw [f2]; decide) y⟩)
      · rw [e100]; exact x_in_nI (by omega) (by decide)
      · have f73 : m2.1 73 b = nI fs := by rw [(hR2.b bl).2.2.2.2.1, hfs]
        have cnt : (kids J.2.2.1 n).length = 0 + cnN σ (endV σ b - fs) fs := by
          have e := z
          unfold nIn at e
          rw [hfs] at e
          have e0 : cI σ (endV σ b - fs) fs 0 = nI (0 + cnN σ (endV σ b - fs) fs) := cI_n σ _ _ 0
          rw [e0] at e
          have := cnN_le σ (endV σ b - fs) fs
          have := hR.e b
          exact (nI_eq (by omega) (by omega)).mp e
        have fe : fs ≤ endV σ b := by
          rw [show endV σ b = (σ.1.getD (b + 1) dBK).2.2.2.2 by unfold endV; rw [if_pos b1]]
          rw [← hfs]
          exact hM b b1
        rw [ei, e100, cb, f73, (hT2.2.1 n hn).2.2.2.2.2.1]
        have tf' : ty3 (tyV σ (σ.1.getD b dBK).2.2.2.2) := by rw [hfs]; exact tf
        refine c357L xs (d + 4) hT2 hR2 hP hD hn b1 tf' hk op2 (endV σ b - fs) fs 0 (n + 1) 1 (by omega) cnt hk.1 (Or.inr rfl) ?_
        have oc := owT_c J.2.2.1 σ b (endV σ b - fs) fs (n + 1)
        rw [hfs] at oc
        generalize owT J.2.2.1 σ b (endV σ b - fs) fs (n + 1) = ow at oc
        have xf : x_in (nI fs) 4700 = true := x_in_nI (by omega) (by decide)
        have cf : (nI fs).toNatClampNeg = fs := nI_clamp (by omega)
        have g73 : (flM2 J m2 26 n).1 73 b = m2.1 73 b := by unfold flM2; rw [y_si_at, if_neg (by omega), y_si_at, if_neg (by omega)]
        by_cases q : ow = -1
        · rw [if_neg (fun y => y.2 q), if_pos q]
          refine w357_228 xs (d + 5) _ _ _ _ m2 _ (rl1 (by omega) hT2 hn f2 ⟨?_, ?_, xi, xi, ?_⟩)
          · rw [e100]; exact x_in_nI (by omega) (by decide)
          · rw [e100, cb, g73, f73]; exact xf
          · rw [ei]
            have fe := FE.mk J m2 (show (0 : Int32) < 26 by decide) n
            refine ⟨rfl, ((jk2.fl J 26 n).si (by omega)).si (by omega), ?_, fe.2.1, ?_⟩
            · rw [y_si_at, if_neg (by omega), y_si_at, if_neg (by omega)]; exact fe.1
            · rw [y_si_at, if_neg (by omega), y_si_at, if_neg (by omega)]; exact fe.2.2
        · rw [if_pos ⟨rfl, q⟩, if_neg q]
          refine w357_228 xs (d + 5) _ _ _ _ m2 _ (rl0 ⟨?_, ?_, xi, xi, ?_⟩)
          · rw [e100]; exact x_in_nI (by omega) (by decide)
          · rw [e100, cb, f73]; exact xf
          · obtain ⟨-, hvd2⟩ := hR2.d vo
            rw [ei, e100, cb, f73, cf, tyV_r hvd2 (Or.inl f8), ← oc.resolve_left q]
            have jk3 : JK m (y_si (y_si m2 84 (J.2.2.2 n) ow) 87 (J.2.2.2 n) (vp_nar .boolean 0)) := (jk2.si (by omega)).si (by omega)
            refine ⟨rfl, jk3, RJ.e34 h hn kn ks jk3 (fun a i z1 z2 => ?_) (fun a i z1 z2 z3 => ?_) (fun i hi => ?_) ?_ ?_ ⟨b + 10, rfl, by omega, ?_⟩⟩
            · rw [y_si_at, if_neg (by omega), y_si_at, if_neg (by omega), ← hm2, y_si_at, if_neg (by omega)]
            · rw [y_si_at, if_neg (fun z => z3 z.2), y_si_at, if_neg (fun z => z3 z.2), ← hm2, y_si_at, if_neg (fun z => z3 z.2)]
            · rw [y_si_at, if_neg (by omega), y_si_at, if_neg (by omega), ← hm2, y_si_at, if_neg (by omega)]
            · rw [y_si_at, if_neg (by omega), y_si_same]
            · rw [y_si_same]; rfl
            · rw [y_si_at, if_neg (by omega), y_si_at, if_neg (by omega), ← hm2, y_si_same, if_neg (by omega)]
    · rw [if_pos z]
      refine w357_103 xs (d + 5) _ _ _ _ m2 _ (rl1 (by omega) hT2 hn f2 ?_)
      have fe := FE.mk J m2 (show (0 : Int32) < 25 by decide) n
      exact ⟨fun y => absurd y fe.nle, fun _ => ⟨rfl, jk2.fl J 25 n, fe⟩⟩
