/-! TOKENS OF THE REFERENCE: numbers and times -/
def TY (m : yM) (f : Nat → Nat) (n : Nat) : Prop := m.1 58 2 = nI n ∧ n ≤ 8192 ∧ ∀ i, i < n → f i < 256 ∧ m.1 59 i = (nI (f i)).toInt8.toInt32
def rc (f : Nat → Nat) (n i : Nat) : Int32 := if i < n then nI (f i) else 0
theorem TY.lk {m : yM} {f : Nat → Nat} {n i : Nat} (h : TY m f n) (hi : i < 2 ^ 31) : lk_ m (nI i) = rc f n i := by
  obtain ⟨h5, h8, hf⟩ := h
  unfold lk_ rc
  rw [h5]
  by_cases hn : i < n
  · rw [if_pos hn, if_pos (nI_lt hn (by omega)), nI_clamp hi, (hf i hn).2]
    exact by8 _ (hf i hn).1
  · rw [if_neg hn, if_neg (fun z => hn ((nI_ltI hi (by omega)).mp z))]
theorem TY.hB {m : yM} {f : Nat → Nat} {n : Nat} (h : TY m f n) : (m.1 58 2).toInt ≤ 8192 := by
  obtain ⟨h5, h8, -⟩ := h
  rw [h5, nI_toInt (by omega)]
  omega
theorem TY.si {m : yM} {f : Nat → Nat} {n : Nat} (h : TY m f n) {k i : Nat} {v : Int32} (hk : k ≠ 59) (hi : k ≠ 58 ∨ i ≠ 2) : TY (y_si m k i v) f n := by
  obtain ⟨h5, h8, hf⟩ := h
  refine ⟨?_, h8, fun j hj => ⟨(hf j hj).1, ?_⟩⟩
  · rw [y_si_at, if_neg (by omega)]; exact h5
  · rw [y_si_at, if_neg (by omega)]; exact (hf j hj).2
theorem c274x (xs : List Int32) (d : Nat) (m : yM) {f : Nat → Nat} {n : Nat} (h : TY m f n) (i : Nat) (hi : i < 2 ^ 31) : yC (xg xs) d 274 [.ref 58, .int (nI i)] m (fun r m' => r = some (.int (rc f n i)) ∧ m' = m) := by
  rw [← h.lk hi]
  exact c274 xs d m (nI i) (nI_pos' hi) h.hB
theorem rc_eq {f : Nat → Nat} {n i k : Nat} (hk : k < 256) (h0 : 0 < k) (hf : i < n → f i < 256) : rc f n i = nI k ↔ i < n ∧ f i = k := by
  unfold rc
  by_cases h : i < n
  · rw [if_pos h, nI_eq (by have := hf h; omega) (by omega)]
    exact ⟨fun z => ⟨h, z⟩, fun z => z.2⟩
  · rw [if_neg h]
    exact ⟨fun z => absurd z.symm (nI_ne0 h0 (by omega)), fun z => absurd z.1 h⟩
theorem rc_D {f : Nat → Nat} {n i : Nat} (hf : i < n → f i < 256) : isD (rc f n i) ↔ i < n ∧ isDN (f i) := by
  unfold rc
  by_cases h : i < n
  · rw [if_pos h, isD_N _ (hf h)]
    exact ⟨fun z => ⟨h, z⟩, fun z => z.2⟩
  · rw [if_neg h]
    exact ⟨fun z => absurd z (by decide), fun z => absurd z.1 h⟩
theorem isP_N {c : Nat} (h : c < 256) : isP (nI c) ↔ isPN c := or_congr (isL_N c h) (isD_N c h)
theorem rc_P {f : Nat → Nat} {n i : Nat} (hf : i < n → f i < 256) : isP (rc f n i) ↔ i < n ∧ isPN (f i) := by
  unfold rc
  by_cases h : i < n
  · rw [if_pos h, isP_N (hf h)]
    exact ⟨fun z => ⟨h, z⟩, fun z => z.2⟩
  · rw [if_neg h]
    exact ⟨fun z => absurd z (by decide), fun z => absurd z.1 h⟩
theorem rc_gr {f : Nat → Nat} {n i k : Nat} (hk : k < 256) (h0 : 0 < k) (hf : i < n → f i < 256) : gr_ (rc f n i) = nI k ↔ i < n ∧ gN (f i) = k := by
  unfold rc
  by_cases h : i < n
  · rw [if_pos h, gr_N _ (hf h), nI_eq (by have := gN_lt _ (hf h); omega) (by omega)]
    exact ⟨fun z => ⟨h, z⟩, fun z => z.2⟩
  · rw [if_neg h]
    exact ⟨fun z => absurd (show (nI k) = 0 from z.symm.trans (by decide)) (nI_ne0 h0 (by omega)), fun z => absurd z.1 h⟩
theorem rc_do {f : Nat → Nat} {n i : Nat} (hf : i < n → f i < 256) : do_ (rc f n i) = nI (if i < n then dN (f i) else 99) := by
  unfold rc
  by_cases h : i < n
  · rw [if_pos h, if_pos h, do_N _ (hf h)]
  · rw [if_neg h, if_neg h]
    decide
theorem dN_D : ∀ c, c < 256 → (isDN c ↔ dN c < 10) := by decide +kernel
theorem dN_v : ∀ c, c < 256 → isDN c → dN c = c - 48 ∧ 48 ≤ c := by decide +kernel
/-- the reference's numbers stop growing behind 2 ^ 33 -/
def moN (v b g : Nat) : Nat := if 8589934592 < v then v else v * b + g
def rvd (f : Nat → Nat) (b : Nat) : Nat → Nat → Nat → Nat
  | 0, _, v => v
  | q + 1, i, v => if dN (f i) < b then rvd f b q (i + 1) (moN v b (dN (f i))) else v
def Rr (v a : Nat) : Prop := v ≤ 274877906944 ∧ (v = a ∨ (8589934592 < v ∧ 8589934592 < a))
theorem Rr.mo {v a b g : Nat} (h : Rr v a) (hb : 1 ≤ b) (hb2 : b ≤ 16) (hg : g ≤ 15) : Rr (moN v b g) (a * b + g) := by
  obtain ⟨h1, h2⟩ := h
  unfold moN
  by_cases hv : 8589934592 < v
  · rw [if_pos hv]
    have h3 : a ≤ a * b := Nat.le_mul_of_pos_right a (by omega)
    refine ⟨h1, Or.inr ⟨hv, ?_⟩⟩
    rcases h2 with h2 | h2 <;> omega
  · rw [if_neg hv]
    have h3 : v * b ≤ 8589934592 * 16 := Nat.mul_le_mul (by omega) hb2
    rcases h2 with rfl | h2
    · exact ⟨by omega, Or.inl rfl⟩
    · omega
theorem rvd_R (f : Nat → Nat) (b : Nat) (hb : 1 ≤ b) (hb2 : b ≤ 16) : ∀ q i v a, Rr v a → Rr (rvd f b q i v) (dv f b q i a)
  | 0, _, _, _, h => h
  | q + 1, i, v, a, h => by
    unfold rvd dv
    split
    · rename_i hd
      exact rvd_R f b hb hb2 q (i + 1) _ _ (h.mo hb hb2 (by omega))
    · exact h
theorem mo_N {v b g : Nat} (hv : v ≤ 274877906944) (hb : b ≤ 16) (hg : g ≤ 15) : mo_ (lN v) (nI b) (nI g) = lN (moN v b g) := by
  unfold mo_ moN
  have e : ((8589934592 : Int64) < lN v) ↔ 8589934592 < v := pk_lLT (a := 8589934592) (by decide) (by omega)
  by_cases h : 8589934592 < v
  · rw [if_pos h, if_pos (e.mpr h)]
  · rw [if_neg h, if_neg (fun z => h (e.mp z)), nI_l (by omega), nI_l (by omega), lN_mul, lN_add]
def bdR (m : yM) (v p : Nat) : yM := y_si (y_si (y_si m 58 3 (nI v)) 58 4 (nI p)) 58 6 6
theorem c275 (xs : List Int32) (d : Nat) (m : yM) (v p : Nat) (hf : m.1 58 3 = 0) : yC (xg xs) (d + 1) 275 [.ref 58, .int (nI v), .int (nI p)] m (fun r m' => r = none ∧ m' = bdR m v p) := by
  refine w275_0 xs d _ _ m _ ?_
  refine yC.mono (Nat.le_refl _) ?_ (c276 xs d m (nI v) (nI p))
  rintro r m1 ⟨rfl, e⟩
  rw [if_pos hf] at e
  exact ⟨rfl, rfl, by rw [e]; rfl⟩
/-- how the reference says a token of another kind than a name -/
def rkd (t : Nat × Nat × Nat) : Int32 := if t.1 = 2 then 3 else if t.1 = 3 then 4 else if t.1 = 4 then 5 else 0
def rvl (t : Nat × Nat × Nat) : Int32 := if t.1 = 4 then nI (if t.2.1 < 128 then t.2.1 - 69 else t.2.1 - 128) else nI t.2.1
def rR (m : yM) (p : Nat) (t : Nat × Nat × Nat) (r : Option Value) (m' : yM) : Prop := r = none ∧ m' = if t.1 = 5 then bdR m t.2.1 p else tkn m (rkd t) (rvl t) (nI t.2.2)
theorem rR.bad {m : yM} {p v : Nat} {t : Nat × Nat × Nat} {m' : yM} (ht : t = (5, v, 0)) (hm : m' = bdR m v p) : rR m p t none m' := ⟨rfl, by simp [ht, hm]⟩
theorem rR.ok {m : yM} {p K v e : Nat} {t : Nat × Nat × Nat} {m' : yM} (ht : t = (K, v, e)) (hK : K ≠ 5) (hm : m' = tkn m (rkd (K, v, e)) (rvl (K, v, e)) (nI e)) : rR m p t none m' := ⟨rfl, by rw [ht, if_neg hK]; exact hm⟩
theorem c280fin (xs : List Int32) (d : Nat) (m : yM) {f : Nat → Nat} {n : Nat} (h : TY m f n) (p : Nat) (h5 : m.1 58 5 = nI p) (hf0 : m.1 58 3 = 0) (e v V : Nat) (he : e ≤ n + 3) (hv : v < 2 ^ 62) (hV : v = V ∨ (2147483647 < v ∧ 2147483647 < V)) : yP (xg xs) (d + 3) 280 323 [(0, .ref 58), (1, .int (nI e)), (2, .long (lN v)), (4, .int 1)] [] m (rR m p (finN f n e V)) := by
  have h8 := h.2.1
  have hf := h.2.2
  have bad : finN f n e V = (5, 4, 0) → yP (xg xs) (d + 2 + 1) 280 347 [(0, .ref 58)] [] m (rR m p (finN f n e V)) := by
    intro g
    refine w280_347 xs (d + 2) m _ ?_
    rw [h5]
    exact y_cv (c275 xs d m 4 p hf0) (by omega) (rR.bad g rfl)
  refine w280_323 xs (d + 2) _ _ _ m _ ⟨fun z => absurd z (by decide), fun _ => ?_⟩
  refine y_ci (c274x xs d m h e (by omega)) (by omega) ?_
  refine y_ci (c283 xs d m _) (by omega) ?_
  have ip := rc_P (f := f) (n := n) (i := e) (fun z => (hf _ z).1)
  refine ⟨fun z => bad (by unfold finN; rw [if_pos (Or.inr (ip.mp (y_ift z)))]), fun z => ?_⟩
  have np : ¬ (e < n ∧ isPN (f e)) := fun y => y_iff z (ip.mpr y)
  have lc : (lg_cmp (lN v) (2147483647 : Int64) ≤ 0) ↔ v ≤ 2147483647 := by
    rw [lg_cmp_le]
    exact pk_lLE (b := 2147483647) (by omega) (by decide)
  rw [lc]
  refine ⟨fun y => ?_, fun y => bad (by unfold finN; rw [if_pos (Or.inl (by omega))])⟩
  refine y_cv (c277 xs d m _ _ _) (by omega) ?_
  refine rR.ok (K := 2) (v := V) (e := e) (by unfold finN; rw [if_neg (fun x => x.elim (fun x => by omega) np)]) (by decide) ?_
  rw [lN_i, show v = V by omega]
  rfl
theorem c280bad (xs : List Int32) (d : Nat) (m : yM) (p : Nat) (h5 : m.1 58 5 = nI p) (hf0 : m.1 58 3 = 0) (l1 : Int32) (l2 : Int64) (t : Nat × Nat × Nat) (ht : t = (5, 4, 0)) : yP (xg xs) (d + 3) 280 323 [(0, .ref 58), (1, .int l1), (2, .long l2), (4, .int 0)] [] m (rR m p t) := by
  refine w280_323 xs (d + 2) _ _ _ m _ ⟨fun _ => ?_, fun z => absurd rfl z⟩
  refine w280_347 xs (d + 2) m _ ?_
  rw [h5]
  exact y_cv (c275 xs d m 4 p hf0) (by omega) (rR.bad ht rfl)
/-- its loop over digits -/
theorem c280L (xs : List Int32) (d : Nat) (m : yM) {f : Nat → Nat} {n : Nat} (h : TY m f n) (l4 l5 l6 : Int32) (Q : Option Value → yM → Prop) (E w : Nat) (K : yP (xg xs) (d + 3) 280 44 [(0, .ref 58), (1, .int (nI E)), (2, .long (lN w)), (4, .int l4), (5, .int l5), (6, .int l6)] [] m Q) : ∀ q i v : Nat, i + q = n → rn f (isDg 10) q i = E → rvd f 10 q i v = w → v ≤ 274877906944 → (∃ a, Rr v a) → yP (xg xs) (d + 3) 280 44 [(0, .ref 58), (1, .int (nI i)), (2, .long (lN v)), (4, .int l4), (5, .int l5), (6, .int l6)] [] m Q := by
  have h8 := h.2.1
  have hf := h.2.2
  intro q
  induction q with
  | zero =>
    intro i v hi h1 h2 _ _
    unfold rn at h1
    unfold rvd at h2
    rw [h1, h2]
    exact K
  | succ q ih =>
    intro i v hi h1 h2 h3 h4
    have hi2 : i < n := by omega
    have g := (hf i hi2).1
    have hs1 : rn f (isDg 10) (q + 1) i = if isDg 10 (f i) then rn f (isDg 10) q (i + 1) else i := rfl
    have hs2 : rvd f 10 (q + 1) i v = if dN (f i) < 10 then rvd f 10 q (i + 1) (moN v 10 (dN (f i))) else v := rfl
    by_cases hd : dN (f i) < 10
    · rw [hs1, if_pos (by simpa using hd)] at h1
      rw [hs2, if_pos hd] at h2
      have hD := (dN_D _ g).mpr hd
      have dvl := dN_v _ g hD
      have e : rc f n i = nI (f i) := if_pos hi2
      refine w280_44 xs (d + 2) _ _ _ _ _ m _ ?_
      refine y_ci (c274x xs d m h i (by omega)) (by omega) ?_
      refine y_ci (c278 xs d m _) (by omega) ?_
      refine ⟨fun z => absurd ((rc_D (fun z => (hf _ z).1)).mpr ⟨hi2, hD⟩) (y_iff z), fun _ => ?_⟩
      refine y_ci (c274x xs d m h i (by omega)) (by omega) ?_
      rw [e, show nI (f i) - (48 : Int32) = nI (dN (f i)) by rw [dvl.1]; exact pk_sub dvl.2]
      refine y_cl (c281 xs d m _ _ _) (by omega) ?_
      rw [show mo_ (lN v) (10 : Int32) (nI (dN (f i))) = lN (moN v 10 (dN (f i))) from mo_N (b := 10) h3 (by decide) (by omega), nI_1]
      obtain ⟨a, ha⟩ := h4
      have hr := ha.mo (b := 10) (g := dN (f i)) (by decide) (by decide) (by omega)
      exact ih (i + 1) _ (by omega) h1 h2 hr.1 ⟨_, hr⟩
    · rw [hs1, if_neg (by simpa using hd)] at h1
      rw [hs2, if_neg hd] at h2
      rw [h1, h2]
      exact K
