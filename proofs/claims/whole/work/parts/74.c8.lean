/-! THE RULES' INVARIANTS: each look has what it wants -/
def HN (F : List ND) : Prop := ∀ j, j < F.length → ¬ vtF F j = 0 → ∃ k, vF F j = nI k ∧ 41 ≤ k ∧ k < 4172
theorem cnN_s (σ : RS) (k v : Nat) : cnN σ (k + 1) v = (if (vD σ v).1 = 1 then 1 else 0) + cnN σ k (v + 1) := rfl
theorem owOk_of {m0 : yM} {T : Nat} {F : List ND} {N n : Nat} (h : TW m0 T F N n) (σ : RS) : ∀ k v j p, (kids F n).length = j + cnN σ k v → (∀ c, (kids F n)[j]? = some c → c = p) → owOk F σ k v p
  | 0, v, j, p, _, _ => trivial
  | k + 1, v, j, p, hl, hj => by
    rw [cnN_s] at hl
    refine ⟨fun z => ?_, fun z => ?_⟩
    · rw [if_pos z] at hl
      obtain ⟨c, ec⟩ : ∃ c, (kids F n)[j]? = some c := ⟨_, getD_some (d := 0) (by omega)⟩
      have := hj c ec
      subst this
      exact ⟨(h.kin (List.mem_of_getElem? ec)).2.2.2.1, owOk_of h σ k (v + 1) (j + 1) _ (by omega) (fun e he => h.kdN.2 j c e ec he)⟩
    · rw [if_neg z] at hl
      exact owOk_of h σ k (v + 1) j p (by omega) hj
theorem calOk_of {m0 : yM} {T : Nat} {F : List ND} {N n : Nat} (h : TW m0 T F N n) (hF : F.length ≤ 16400) {s : SU} (hB : s.1.1.length ≤ 391) (hV : s.1.2.1.length ≤ 4095) (hM : ∀ b, b < s.1.1.length → endV s.1 b ≤ s.1.2.1.length) (h11 : P11 s) : calOk F s.1 n := by
  have at' := h.at
  have kl : (kids F n).length ≤ 16400 := Nat.le_trans (kds_len _ _ _ _) (by omega)
  refine ⟨fun q hq _ e => ?_, fun b hb e1 e2 => ?_⟩
  · obtain ⟨k2, k3, ks, m1, m2, m3⟩ := kdS_of h.kdN kl hq e
    have b1 := (h.kin m1).2.2.2.1
    have b2 := (h.kin m2).2.2.2.1
    have b3 := (h.kin m3).2.2.2.1
    have hn : n < F.length := by omega
    unfold op3 op2
    rcases ks with ⟨u1, u2, u3, u4⟩ | ⟨u1, u2, u3, u4⟩ | ⟨u1, u2, u3, u4⟩
    · have x : ∀ q, q < 10 → ([0, 7, 8, 9] : List Nat).contains q = true → xar_5.getD q 0 ≤ 1 ∧ xar_5.getD q 0 ≤ 2 ∧ ¬ nI q = 4 := by decide +kernel
      obtain ⟨x1, x2, x3⟩ := x q hq u1
      rw [if_pos x1, if_pos x2]
      exact ⟨b1, hn, hn, fun z => absurd z x3⟩
    · have x : ∀ q, q < 10 → ([1, 2, 5, 6] : List Nat).contains q = true → ¬ xar_5.getD q 0 ≤ 1 ∧ xar_5.getD q 0 ≤ 2 ∧ ¬ nI q = 4 := by decide +kernel
      obtain ⟨x1, x2, x3⟩ := x q hq u1
      rw [if_neg x1, if_pos x2]
      rw [u3] at b2
      exact ⟨b1, b2, hn, fun z => absurd z x3⟩
    · have x : ∀ q, q < 10 → ([3, 4] : List Nat).contains q = true → ¬ xar_5.getD q 0 ≤ 1 ∧ ¬ xar_5.getD q 0 ≤ 2 := by decide +kernel
      obtain ⟨x1, x2⟩ := x q hq u1
      rw [if_neg x1, if_neg x2]
      rw [u3] at b2
      rw [u4] at b3
      exact ⟨b1, b2, b3, fun _ => b3⟩
  · have kb : (s.1.1.getD b dBK).1 = 1 := by
      rcases fBlk_1 (σ := s.1) (by omega) (x := s.1.2.2.2.1 n) (by rw [e1]; exact nI_m1 (by omega)) with ⟨q, q1, q2⟩ | ⟨b', c1, c2, c3⟩
      · rw [e1] at q2
        have := (nI_eq (by omega) (by omega)).mp q2
        omega
      · rw [e1] at c2
        have := (nI_eq (by omega) (by omega)).mp c2
        have : b' = b := by omega
        rw [← this]; exact c3
    obtain ⟨y, y1, -⟩ := h11 b (by omega) kb
    refine ⟨V_lt y1, owOk_of h s.1 _ _ 0 _ ?_ h.kdN.1⟩
    unfold nIn at e2
    have e0 : cI s.1 (endV s.1 b - (s.1.1.getD b dBK).2.2.2.2) (s.1.1.getD b dBK).2.2.2.2 0 = nI (0 + cnN s.1 (endV s.1 b - (s.1.1.getD b dBK).2.2.2.2) (s.1.1.getD b dBK).2.2.2.2) := cI_n s.1 _ _ 0
    rw [e0] at e2
    have c1 := cnN_le s.1 (endV s.1 b - (s.1.1.getD b dBK).2.2.2.2) (s.1.1.getD b dBK).2.2.2.2
    have c2 := hM b (by omega)
    exact (nI_eq (by omega) (by omega)).mp e2
theorem HN.o {F : List ND} (h : HN F) {j : Nat} (hj : j < F.length) (v : ¬ vtF F j = 0) {σ : RS} (e : σ.2.2.2.1 j = vF F j) : nmO σ j := by
  obtain ⟨k, k1, k2, k3⟩ := h j hj v
  exact ⟨k, by rw [e]; exact k1, k3⟩
/-- which nodes are named -/
theorem TW.nm {m0 : yM} {T : Nat} {F : List ND} {N n : Nat} (h : TW m0 T F N n) (k : kK F n = 1 ∨ kK F n = 2 ∨ kK F n = 3 ∨ kK F n = 6 ∨ kK F n = 10 ∨ kK F n = 13 ∨ kK F n = 14 ∨ kK F n = 19 ∨ kK F n = 32 ∨ kK F n = 33 ∨ kK F n = 34) : ¬ vtF F n = 0 := by
  have ok := h.ok
  have g : nmN m0 T (vF F n) (vtF F n) → ¬ vtF F n = 0 := fun ⟨t, e, _⟩ => by omega
  rcases k with k | k | k | k | k | k | k | k | k | k | k <;> rw [k] at ok <;> exact g ok.1
theorem PAll.pb {m0 : yM} {T : Nat} {F : List ND} (hF : HF m0 T F) (hN : HN F) {N : Nat} {A : List Nat} {n : Nat} {s : SU} (hp : PA m0 T F N A n) (h : PAll F A n s) (q : bkN (s.1.2.2.1 n)) : preB F s n := by
  have hn := hp.lt.1
  obtain ⟨kn, vn, -⟩ := h.1.1.1 n hn (Or.inl (Nat.le_refl _))
  have kb : kK F n = 1 ∨ kK F n = 2 ∨ kK F n = 3 := by rw [kn] at q; exact (ch37e _ hp.1.k37).mp q
  obtain ⟨n1, n2, n3, n4⟩ := h.1.nb hF (by omega)
  refine ⟨by omega, by omega, fun z => ?_, hN.o hn (hp.1.nm (by omega)) vn⟩
  have k1 : kK F n = 1 := by rw [kn] at z; exact (nI_eq (b := 1) (by omega) (by omega)).mp z
  exact (fun_8 hp.1 k1).1
theorem PAll.pl {m0 : yM} {T : Nat} {F : List ND} (hF : HF m0 T F) (hN : HN F) {N : Nat} {A : List Nat} {n : Nat} {s : SU} (hp : PA m0 T F N A n) (h : PAll F (A ++ [n]) (n + szF F n) s) : pre F A s.1 n ∧ (kK F n = 0 → s.1.2.2.1 n = 0) := by
  have hn := hp.lt.1
  have k37 := hp.1.k37
  have at' := hp.1.at
  have nA : n ∈ A ++ [n] := List.mem_append_right _ List.mem_cons_self
  have hb := h.1
  obtain ⟨⟨h1, h2, h3, h3b, h4, h5, h6, h7, h8, h9, h10, h11⟩, h12, h13, -⟩ := h
  obtain ⟨kn, vn, tn⟩ := h1.1 n hn (Or.inr nA)
  obtain ⟨n1, n2, n3, n4⟩ := hb.nb hF at'.1
  have B0 : ¬ kK F n = 0 → 0 < s.1.1.length := fun k => PB.b0 hF.2.2.1 hp h1 k
  have bt := (hb.pv hF).2.2
  have ki : ∀ k, k < 37 → (s.1.2.2.1 n = nI k → kK F n = k) := fun k hk z => by rw [kn] at z; exact (nI_eq (by omega) (by omega)).mp z
  have dn : ¬ (kK F n = 7 ∨ kK F n = 8 ∨ kK F n = 9 ∨ kK F n = 10 ∨ kK F n = 30 ∨ kK F n = 31) → (kK F n = 6 → ¬ kK F (fPar A) = 5) → ¬ kK F n = 5 → allD s.1 := fun a b c => allD_of h3 (hp.no5 a b c _)
  have fA : ¬ n = 0 → fPar A ∈ A ∧ n ∈ kids F (fPar A) ∧ kK F n ∈ kidK (kK F (fPar A)) := by
    intro z
    rcases hp.up with ⟨y1, y2⟩ | ⟨B, q, M, e1, e2, e3, e4, e5⟩
    · exact absurd y2 z
    · rw [e2]; exact ⟨by rw [e1]; exact List.mem_append_right _ List.mem_cons_self, e3, e4⟩
  have nz : ¬ kK F n = 0 → ¬ n = 0 := fun z y => z (by rw [y]; exact hF.2.2.1)
  have nm : (kK F n = 1 ∨ kK F n = 2 ∨ kK F n = 3 ∨ kK F n = 6 ∨ kK F n = 10 ∨ kK F n = 13 ∨ kK F n = 14 ∨ kK F n = 19 ∨ kK F n = 32 ∨ kK F n = 33 ∨ kK F n = 34) → nmO s.1 n := fun k => hN.o hn (hp.1.nm k) vn
  have ok := hp.1.ok
  have nn : n + 1 ∉ A ++ [n] := by
    intro z
    rcases List.mem_append.mp z with y | y
    · have := (hp.2.2 _ y).1
      omega
    · have := List.mem_singleton.mp y
      omega
  refine ⟨⟨hn, fun z => B0 (fun y => z (by rw [kn, y]; rfl)), ⟨fun z => ?_, fun z => ?_, fun _ => bt, fun z => ?_, fun z => ?_⟩, ⟨fun z => ?_, fun z => ?_, fun z => ?_, fun z => ?_, fun z => ?_, fun z => ?_⟩, ⟨fun z => ?_, fun z => ?_, fun z => ?_, fun z => ?_, fun z => ?_, fun z => ?_, fun z => ?_, fun z => ?_⟩⟩, fun z => by rw [kn, z]; rfl⟩
  · have k : kK F n = 32 ∨ kK F n = 33 ∨ kK F n = 34 := z.imp (ki 32 (by omega)) (Or.imp (ki 33 (by omega)) (ki 34 (by omega)))
    exact ⟨nm (by omega), dn (by omega) (by omega) (by omega)⟩
  · rcases z with z | z | z
    · rw [ki 32 (by omega) z] at ok
      obtain ⟨-, a, -, eks⟩ := ok
      exact (hp.1.k1 eks).2.2.1
    · rw [ki 33 (by omega) z] at ok
      exact (hp.1.k1 ok.2).2.2.1
    · rw [ki 36 (by omega) z] at ok
      obtain ⟨-, -, a, -, eks⟩ := ok
      exact (hp.1.k1 eks).2.2.1
  · exact calOk_of hp.1 hF.2.2.2.1 n1 n2 n3 h11
  · rw [ki 35 (by omega) z] at ok
    obtain ⟨-, -, a, b, -, -, eks⟩ := ok
    exact (hp.1.k2 eks).2.2.2.1
  · have k := ki 12 (by omega) z
    rw [k] at ok
    obtain ⟨-, a, b, -, -, eks⟩ := ok
    obtain ⟨m1, m2, m3, m4, m5⟩ := hp.1.k2 eks
    have i1 := hp.1.kin (show n + 1 ∈ kids F n by rw [m1]; exact List.mem_cons_self)
    obtain ⟨v, v1, v2, v3⟩ := h12 n nA (Or.inl k) i1.2.1 nn
    exact ⟨m4, v, v1, v2⟩
  · have k := ki 13 (by omega) z
    exact ⟨nm (by omega), dn (by omega) (by omega) (by omega)⟩
  · have k := ki 14 (by omega) z
    rw [k] at ok
    obtain ⟨-, a, -, eks⟩ := ok
    obtain ⟨f1, f2, f3⟩ := fA (nz (by omega))
    rw [k] at f3
    have p13 : kK F (fPar A) = 13 := by
      have : ∀ x, x < 37 → 14 ∈ kidK x → x = 13 := by decide
      exact this _ (hF.2.1 _ (hp.lt.2 _ f1)) f3
    obtain ⟨g1, g2, M, hM⟩ := hp.2.2 _ f1
    have kf := h1.1 _ (hp.lt.2 _ f1) (Or.inr (List.mem_append_left _ f1))
    exact ⟨(hp.1.k1 eks).2.2.1, g1, hN.o (hp.lt.2 _ f1) (hM.nm (by omega)) kf.2.1, dn (by omega) (by omega) (by omega), bt⟩
  · have k := ki 16 (by omega) z
    rw [k] at ok
    obtain ⟨-, e, c, s', -, -, -, eks⟩ := ok
    have : ∃ c, c ∈ kids F n := by
      cases hq : kids F n with
      | nil => rw [hq] at eks; cases eks
      | cons a L => exact ⟨a, List.mem_cons_self⟩
    obtain ⟨c', hc⟩ := this
    have := hp.1.kin hc
    omega
  · have k := ki 18 (by omega) z
    rw [k] at ok
    obtain ⟨-, a, s', -, -, eks⟩ := ok
    have : ∃ c, c ∈ kids F n := by
      cases hq : kids F n with
      | nil => rw [hq] at eks; cases eks
      | cons a L => exact ⟨a, List.mem_cons_self⟩
    obtain ⟨c', hc⟩ := this
    have := hp.1.kin hc
    omega
  · have k := ki 19 (by omega) z
    refine ⟨?_, nm (by omega), dn (by omega) (by omega) (by omega)⟩
    rw [k] at ok
    obtain ⟨-, a, b, s', ha, hb', hs, eks⟩ := ok
    cases hq : kids F n with
    | nil => rw [hq] at eks; cases eks
    | cons c1 L =>
      cases L with
      | nil => rw [hq] at eks; cases (List.cons.inj eks).2
      | cons c2 L =>
        cases L with
        | nil =>
          rw [hq] at eks
          have := (List.cons.inj (List.cons.inj eks).2).2
          rcases hs with rfl | ⟨x, -, rfl⟩ <;> cases this
        | cons c3 L =>
          have e1 := hp.1.kdN.1 c1 (by rw [hq]; rfl)
          have e2 := hp.1.kdN.2 0 c1 c2 (by rw [hq]; rfl) (by rw [hq]; rfl)
          have e3 := hp.1.kdN.2 1 c2 c3 (by rw [hq]; rfl) (by rw [hq]; rfl)
          have i1 := hp.1.kin (show c1 ∈ kids F n by rw [hq]; exact List.mem_cons_self)
          have i2 := hp.1.kin (show c2 ∈ kids F n by rw [hq]; exact List.mem_cons_of_mem _ List.mem_cons_self)
          have i3 := hp.1.kin (show c3 ∈ kids F n by rw [hq]; exact List.mem_cons_of_mem _ (List.mem_cons_of_mem _ List.mem_cons_self))
          omega
  · have k : kK F n = 1 ∨ kK F n = 2 ∨ kK F n = 3 := z.imp (ki 1 (by omega)) (Or.imp (ki 2 (by omega)) (ki 3 (by omega)))
    exact dn (by omega) (by omega) (by omega)
  · have k := ki 5 (by omega) z
    obtain ⟨q, t, b, g, eA, kb, kg, k1', c1, et, t1, t2, t3, t4, t5, t6, t7, qk⟩ := dcl_f hF.2.1 hF.2.2.1 hp h1 k
    have le := h3.1
    rw [qk] at le
    rw [c1, et]
    refine ⟨by omega, by omega, by omega, fun z8 z9 => ?_⟩
    have ks : s.1.2.2.1 t = nI (kK F t) := by
      rcases h1.2.1 t (by omega) with y | ⟨y, w⟩
      · exact y
      · omega
    rw [ks] at z8 z9
    have k10 : kK F t = 10 := by
      rcases t4 with w | w | w
      · rw [w] at z8; exact absurd rfl z8
      · rw [w] at z9; exact absurd rfl z9
      · exact w
    have tA : t ∉ A ++ [n] := by
      intro z
      rcases List.mem_append.mp z with y | y
      · have := (hp.2.2 t y).1
        omega
      · have := List.mem_singleton.mp y
        omega
    obtain ⟨⟨x, x1, x2⟩, -⟩ := h6.2 t (by omega) k10 t2 tA
    exact ⟨x, x1, by rcases x2 with y | y <;> omega⟩
  · have k := ki 6 (by omega) z
    refine ⟨nm (by omega), fun z1 z2 => dn (by omega) (fun _ w => z2 ?_) (by omega), by omega⟩
    obtain ⟨f1, f2, f3⟩ := fA (nz (by omega))
    rw [(h1.1 _ (hp.lt.2 _ f1) (Or.inr (List.mem_append_left _ f1))).1, w]
    rfl
  · have k := ki 7 (by omega) z
    obtain ⟨f1, f2, f3⟩ := fA (nz (by omega))
    obtain ⟨w, kk, w1, w2, w3, w4⟩ := hF.2.2.2.2.1 n hn k
    exact ⟨(hp.2.2 _ f1).1, w, kk, w1, w2, w3, by rw [vn]; exact w4⟩
  · exact (k9_s hp.1 (ki 9 (by omega) z)).2.2.2.2.1
  · have k := ki 10 (by omega) z
    exact nm (by omega)
  · have k := ki 25 (by omega) z
    rw [k] at ok
    rcases ok.2.2 with eks | eks
    · exact (hp.1.k1 eks).2.2.1
    · exact (hp.1.k1 eks).2.2.1
  · have k := ki 28 (by omega) z
    rw [k] at ok
    obtain ⟨m1, m2, m3, m4⟩ := hp.1.k1 ok.2.2
    have i1 := hp.1.kin (show n + 1 ∈ kids F n by rw [m1]; exact List.mem_cons_self)
    obtain ⟨v, v1, v2, v3⟩ := h12 n nA (Or.inr k) i1.2.1 nn
    exact ⟨m3, v, v1, v2⟩
theorem PAll.z {F : List ND} (hK : ∀ j, j < F.length → (F.getD j (0, 0, 0, 0, 1)).1 = nI (kK F j)) : PAll F [] 0 (sg0 F) := by
  refine ⟨⟨⟨fun j hj _ => ⟨hK j hj, rfl, rfl⟩, fun j hj => Or.inl (hK j hj), fun j _ _ => rfl, fun j _ _ => rfl, fun p hp => by cases hp⟩, ⟨⟨Nat.zero_le _, fun _ => Nat.zero_le _⟩, Nat.zero_le _, fun a b ha => absurd ha (Nat.not_lt_zero _), fun b hb => absurd hb (Nat.not_lt_zero _), fun b hb => absurd hb (Nat.not_lt_zero _), fun b hb => absurd hb (Nat.not_lt_zero _), fun b hb => absurd hb (Nat.not_lt_zero _)⟩, ⟨Nat.zero_le _, fun v hv => absurd (show v + _ < 0 from hv) (Nat.not_lt_zero _), fun v hv => absurd hv (Nat.not_lt_zero _)⟩, fun z => absurd z (Nat.lt_irrefl _), fun b v w hb => absurd hb (Nat.not_lt_zero _), fun v y hy => by (cases hy), ⟨fun j _ _ hj => absurd hj (Nat.not_lt_zero _), fun j _ _ hj => absurd hj (Nat.not_lt_zero _)⟩, fun j _ _ hj => absurd hj (Nat.not_lt_zero _), ⟨fun _ c => rfl, fun z => absurd z.1 (Nat.lt_irrefl _)⟩, ⟨fun b hb => absurd hb (Nat.not_lt_zero _), fun p hp => by (cases hp), fun v y hy => by (cases hy), fun b v y hb => absurd hb (Nat.not_lt_zero _), fun b v w y z hb => absurd hb (Nat.not_lt_zero _)⟩, fun j _ _ => Or.inl rfl, fun b hb => absurd hb (Nat.not_lt_zero _)⟩, fun p hp => by (cases hp), fun p j hp => by (cases hp), fun j _ _ => rfl⟩
theorem HW.k {m0 : yM} {T : Nat} {F : List ND} (h : HW m0 T F) {j : Nat} (hj : j < F.length) : (F.getD j (0, 0, 0, 0, 1)).1 = nI (kK F j) := by
  obtain ⟨M, hM⟩ := h j hj
  cases M with
  | zero => exact absurd hM (fun z => z)
  | succ M => exact hM.2.2.1
/-- the class's rules have what they want -/
theorem jp_of {m0 : yM} {T N : Nat} {F : List ND} (hF : HF m0 T F) (hN : HN F) (hW : TW m0 T F N 0) : jp F N [] 0 (sg0 F) := by
  refine jp_ind (P := PAll F) (m0 := m0) (T := T) (fun N A n s σ hp h e => PAll.b hF hp h e) (fun N A n s σ' hp h e => PAll.l hF hp h e) (fun N A n s hp h q => PAll.pb hF hN hp h q) (fun N A n s hp h => PAll.pl hF hN hp h) N [] 0 (sg0 F) ⟨hW, rfl, fun p hp => by cases hp⟩ (PAll.z (fun j hj => hF.1.k hj))
