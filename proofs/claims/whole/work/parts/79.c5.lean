/-! MEASURE: how many steps, as the class finds it: the pass -/
theorem c226p (xs : List Int32) (d : Nat) {D : List IT} {S U N l k i q : Nat} {B : Nat → Int} {cs : Nat → Nat} {inn : Nat → Nat → o3} {out : Option Nat} {st : gW} {m1 : yM} {K : Nat} {Q : Option Value → yM → Prop} (hS : S + D.length ≤ 3000) (hU : U ≤ 16) (hcs : CSt D U cs B) (hl : l ≤ 61) (lt : i < q) (nl : i < nx D i) (ok : okI D U (RL D U N) out q i) (rest : LPk D U (RL D U N) out q k (nx D i)) (o13 : ¬ (D.getD i dIT).1 = 13) (hq : q ≤ D.length) (ho : ∀ t, out = some t → t = q + 1 ∧ t ≤ D.length) (hK : q - i ≤ K + 1) (hc : CC D S U B m1) (hv : LVs l i q out st m1) (hT : TI D i q st.1) (ih : ∀ (i q : Nat) (out : Option Nat) (st : gW) (m1 : yM) (K : Nat) (Q : Option Value → yM → Prop), LPk D U (RL D U N) out q k i → q - i ≤ K → q ≤ D.length → (∀ t, out = some t → t = q + 1 ∧ t ≤ D.length) → CC D S U B m1 → LVs l i q out st m1 → TI D i q st.1 → (∀ m2, LVs l q q out (gI D cs inn q K i st) m2 → KLv l q m1 m2 → yP (xg xs) (d + 3) 226 57 [(0, .ref 45), (2, .int (nI S)), (3, .int (nI D.length)), (4, .int (nI q))] [] m2 Q) → yP (xg xs) (d + 3) 226 57 [(0, .ref 45), (2, .int (nI S)), (3, .int (nI D.length)), (4, .int (nI i))] [] m1 Q) (hQ : ∀ m2, LVs l q q out (gI D cs inn q (K + 1) i st) m2 → KLv l q m1 m2 → yP (xg xs) (d + 3) 226 57 [(0, .ref 45), (2, .int (nI S)), (3, .int (nI D.length)), (4, .int (nI q))] [] m2 Q) : yP (xg xs) (d + 3) 226 57 [(0, .ref 45), (2, .int (nI S)), (3, .int (nI D.length)), (4, .int (nI i))] [] m1 Q := by
  have en : nx D i = i + 1 := by unfold nx; rw [if_neg o13]
  rw [gI_s D cs inn lt, en] at hQ
  rw [en] at rest
  have hx : D[i]? = some (D.getD i dIT) := getD_some (by omega)
  obtain ⟨a1, a2, -⟩ := hc.1 i _ hx
  have ea : nI S + nI i = nI (S + i) := nI_add ..
  have ci : (nI (S + i)).toNatClampNeg = S + i := nI_clamp (by omega)
  have nle : ¬ nI D.length ≤ nI i := fun z => by
    have := (nI_leI (by omega) (by omega)).mp z
    omega
  have xi : x_in (nI (S + i)) 3000 = true := x_in_nI (by omega) (by decide)
  have vi := hv.2.1 i (Nat.le_refl _) (by omega)
  refine w226_57 xs (d + 2) _ _ _ m1 _ ⟨fun z => absurd z nle, fun _ => ?_⟩
  rw [ea, ci, a1, a2, nI_clamp (show i < 2147483648 by omega)]
  refine ⟨xi, fun _ => ⟨fun z14 => ⟨x_in_nI (by omega) (by decide), ?_⟩, fun z14 => absurd z14 ok.1⟩, fun z => absurd z o13⟩
  have nxt : ∀ (m2 : yM), LVs l (i + 1) q out (gSt D cs inn q i st) m2 → TI D (i + 1) q (gSt D cs inn q i st).1 → KLv l q m1 m2 → yP (xg xs) (d + 3) 226 178 [(0, .ref 45), (2, .int (nI S)), (3, .int (nI D.length)), (4, .int (nI i))] [] m2 Q := by
    intro m2 lv2 t2 k2
    refine w226_178 xs (d + 2) _ _ _ m2 _ ?_
    rw [nI_1]
    exact ih (i + 1) q out (gSt D cs inn q i st) m2 K Q rest (by omega) hq ho (hc.k k2) lv2 t2 (fun m3 lv3 k3 => hQ m3 lv3 (k2.tr k3 (Nat.le_refl _) (Nat.le_refl _)))
  cases hdd : st.1 i with
  | none =>
    rw [hdd] at vi
    have eg : gSt D cs inn q i st = st := by unfold gSt; rw [hdd]
    refine ⟨fun _ => nxt m1 ?_ ?_ (KLv.re l q m1), fun z => absurd ((AB.lt vi).2.mpr rfl) z⟩
    · rw [eg]
      exact ⟨hv.1, hv.2.1.mo (by omega), hv.2.2⟩
    · rw [eg]
      have := (hT.go nl).1
      rw [en] at this
      exact this
  | some dd =>
    rw [hdd] at vi
    refine ⟨fun z => absurd ((AB.lt vi).2.mp z) (fun w => by cases w), fun _ => ⟨xi, ?_⟩⟩
    exact yC.mono (by omega) (fun r m2 q2 => ⟨q2.1, nxt m2 q2.2.1 q2.2.2.1 q2.2.2.2⟩) (c229 xs d (inn := inn) (by omega) hU hcs hq lt hl ok ho o13 hc hv hT hdd)
theorem c226s (xs : List Int32) (d : Nat) {D : List IT} {S U : Nat} {B : Nat → Int} {cs : Nat → Nat} (hS : S + D.length ≤ 3000) (hU : U ≤ 16) (hcs : CSt D U cs B) : ∀ (N l : Nat), l + N ≤ 61 → ∀ (k i q : Nat) (out : Option Nat) (st : gW) (m1 : yM) (K : Nat) (Q : Option Value → yM → Prop), LPk D U (RL D U N) out q k i → q - i ≤ K → q ≤ D.length → (∀ t, out = some t → t = q + 1 ∧ t ≤ D.length) → CC D S U B m1 → LVs l i q out st m1 → TI D i q st.1 → (∀ m2, LVs l q q out (gI D cs (gT D cs N) q K i st) m2 → KLv l q m1 m2 → yP (xg xs) (d + 3) 226 57 [(0, .ref 45), (2, .int (nI S)), (3, .int (nI D.length)), (4, .int (nI q))] [] m2 Q) → yP (xg xs) (d + 3) 226 57 [(0, .ref 45), (2, .int (nI S)), (3, .int (nI D.length)), (4, .int (nI i))] [] m1 Q := by
  intro N
  induction N with
  | zero =>
    intro l hl k
    induction k with
    | zero =>
      intro i q out st m1 K Q hk hK hq ho hc hv hT hQ
      have hk : i = q := hk
      subst hk
      rw [gI_q] at hQ
      exact hQ m1 hv (KLv.re l i m1)
    | succ k ih =>
      intro i q out st m1 K Q hk hK hq ho hc hv hT hQ
      obtain ⟨lt, -, nl, ok, rest⟩ := hk
      obtain ⟨K, rfl⟩ : ∃ K', K = K' + 1 := ⟨K - 1, by omega⟩
      by_cases o13 : (D.getD i dIT).1 = 13
      · obtain ⟨-, bb, -, -, -, -, b5⟩ := ok.2.2.2.2 o13
        exact absurd b5 (fun z => z)
      · exact c226p xs d hS hU hcs (by omega) lt nl ok rest o13 hq ho hK hc hv hT ih hQ
  | succ N ihN =>
    intro l hl k
    induction k with
    | zero =>
      intro i q out st m1 K Q hk hK hq ho hc hv hT hQ
      have hk : i = q := hk
      subst hk
      rw [gI_q] at hQ
      exact hQ m1 hv (KLv.re l i m1)
    | succ k ih =>
      intro i q out st m1 K Q hk hK hq ho hc hv hT hQ
      obtain ⟨lt, -, nl, ok, rest⟩ := hk
      obtain ⟨K, rfl⟩ : ∃ K', K = K' + 1 := ⟨K - 1, by omega⟩
      by_cases o13 : (D.getD i dIT).1 = 13
      · obtain ⟨⟨n, n1, n2, n3⟩, bb, b1, b2, b3, b4, kb, b5⟩ := ok.2.2.2.2 o13
        have en : nx D i = bb := by unfold nx; rw [if_pos o13, b1, nI_clamp (by omega)]
        rw [gI_s D cs _ lt] at hQ
        have hx : D[i]? = some (D.getD i dIT) := getD_some (by omega)
        have hxp : D[i - 1]? = some (D.getD (i - 1) dIT) := getD_some (by omega)
        have hxb : D[bb - 1]? = some (D.getD (bb - 1) dIT) := getD_some (by omega)
        obtain ⟨a1, -, a3⟩ := hc.1 i _ hx
        have a3' := (hc.1 (i - 1) _ hxp).2.2
        have ea : nI S + nI i = nI (S + i) := nI_add ..
        have ci : (nI (S + i)).toNatClampNeg = S + i := nI_clamp (by omega)
        have em : (if (0 : Int32) < (nI (S + i) - 1) then (nI (S + i) - 1) else 0) = nI (S + (i - 1)) := by
          have e : nI (S + i) - 1 = nI (S + (i - 1)) := by
            rw [show (1 : Int32) = nI 1 from rfl, nI_sub (by omega)]
            congr 1
            omega
          rw [e]
          by_cases z : S + (i - 1) = 0
          · rw [z]; rfl
          · rw [if_pos (show (0 : Int32) < nI (S + (i - 1)) from nI_lt (a := 0) (by omega) (by omega))]
        have nle : ¬ nI D.length ≤ nI i := fun z => by
          have := (nI_leI (by omega) (by omega)).mp z
          omega
        obtain ⟨v1, v2, v3, v4, v5⟩ := hv
        obtain ⟨hT1, hT2⟩ := hT.go nl
        rw [en] at hT1 hT2
        refine w226_57 xs (d + 2) _ _ _ m1 _ ⟨fun z => absurd z nle, fun _ => ?_⟩
        rw [ea, ci, em, nI_clamp (show S + (i - 1) < 2147483648 by omega), a1, a3, a3', b1, n3]
        refine ⟨x_in_nI (by omega) (by decide), fun z => absurd o13 z, fun _ => ⟨x_in_nI (by omega) (by decide), x_in_nI (by omega) (by decide), ?_⟩⟩
        refine yC.mono (by omega) (fun r m2 q2 => ⟨q2.1, ?_⟩) (c227 xs d (l := l) (i := i) (bb := bb) (n := nI n) (m := m1) (by omega) (by omega) v1)
        obtain ⟨-, f7, f48, f49, f47, f50, f51, kbv, f46⟩ := q2
        have ol1 : ofL (l + 1) = 1 := by unfold ofL; rw [if_neg (by omega)]
        have vi := v2 i (Nat.le_refl _) (by omega)
        -- the body begins
        have body : ∀ (st0 : gW), st0.2.1 = none → st0.2.2 = none → (∀ k, i + 1 < k → st0.1 k = none) → AB 1000000000000 ((st0.1 (i + 1)).map (· + 1)) (m2.2 46 (i + 1)) → (∀ ko, ko = st.1 i → (¬ ko = none → (gI D cs (gT D cs N) (bb - 1) (bb - 1 - (i + 1)) (i + 1) st0) = (gI D cs (gT D cs N) (bb - 1) (bb - 1 - (i + 1)) (i + 1) (fun k => if k = i + 1 then some 0 else none, none, none)))) → yP (xg xs) (d + 3) 226 57 [(0, .ref 45), (2, .int (nI S)), (3, .int (nI D.length)), (4, .int (nI (i + 1)))] [] m2 Q := by
          intro st0 s1 s2 s3 s4 s5
          have hc2 : CC D S U B m2 := by
            refine ⟨fun x y hy => ?_, fun x hx => ?_⟩
            · rw [kbv.1 36 _ (by omega) (by omega) (by omega), kbv.1 37 _ (by omega) (by omega) (by omega), kbv.1 38 _ (by omega) (by omega) (by omega)]
              exact hc.1 x y hy
            · rw [kbv.1 41 _ (by omega) (by omega) (by omega)]
              exact hc.2 x hx
          refine ihN (l + 1) (by omega) kb (i + 1) (bb - 1) (some bb) st0 m2 (bb - 1 - (i + 1)) Q b5 (Nat.le_refl _) (by omega) (fun t ht => by have := Option.some.inj ht; omega) hc2 ⟨f7, fun x x1 x2 => ?_, fun _ => ⟨by rw [s1, f50]; exact AB.n1, bb, rfl, f48⟩, fun z => by omega, by rw [s2, f51]; exact AB.n1⟩ (fun x x1 x2 x3 => ?_) (fun m3 lv3 kl3 => ?_)
          · rw [ol1]
            by_cases c : x = i + 1
            · rw [c]; exact s4
            · rw [s3 x (by omega), kbv.2.2.2.2 x c]
              have := v2 x (by omega) (by omega)
              rw [hT2 x (by omega) (by omega) (by omega)] at this
              exact this
          · have : x = i + 1 := by
              rcases Nat.lt_or_ge (i + 1) x with y | y
              · exact absurd (s3 x y) x3
              · omega
            exact ⟨0, this.symm⟩
          · -- the loop's end
            obtain ⟨g1, g2, g3, -, g5⟩ := lv3
            obtain ⟨g3, -⟩ := g3 (by omega)
            have hc3 := hc2.k kl3
            obtain ⟨d1, -, -⟩ := hc3.1 (bb - 1) _ hxb
            have eb : nI S + nI (bb - 1) = nI (S + (bb - 1)) := nI_add ..
            have cb : (nI (S + (bb - 1))).toNatClampNeg = S + (bb - 1) := nI_clamp (by omega)
            have nle2 : ¬ nI D.length ≤ nI (bb - 1) := fun z => by
              have := (nI_leI (by omega) (by omega)).mp z
              omega
            refine w226_57 xs (d + 2) _ _ _ m3 _ ⟨fun z => absurd z nle2, fun _ => ?_⟩
            rw [eb, cb, d1, b4, nI_clamp (show bb - 1 < 2147483648 by omega)]
            refine ⟨x_in_nI (by omega) (by decide), fun _ => ⟨fun z => absurd rfl z, fun _ => ⟨x_in_nI (by omega) (by decide), ?_⟩⟩, fun z => absurd z (by decide)⟩
            have hv' := g2 (bb - 1) (Nat.le_refl _) (Nat.le_refl _)
            rw [ol1] at hv' g5
            have k3 := kl3.2.2.1 (l + 1) (Nat.le_refl _)
            have k3l := kl3.2.2.2.1 l (by omega)
            have kbl := kbv.2.2.1 l (Nat.le_refl _)
            have gTe : gT D cs (N + 1) (i + 1) (bb - 1) = ((gI D cs (gT D cs N) (bb - 1) (bb - 1 - (i + 1)) (i + 1) (fun k => if k = i + 1 then some 0 else none, none, none)).1 (bb - 1), (gI D cs (gT D cs N) (bb - 1) (bb - 1 - (i + 1)) (i + 1) (fun k => if k = i + 1 then some 0 else none, none, none)).2.1, (gI D cs (gT D cs N) (bb - 1) (bb - 1 - (i + 1)) (i + 1) (fun k => if k = i + 1 then some 0 else none, none, none)).2.2) := rfl
            have s5 := s5 _ rfl
            refine yC.mono (by omega) (fun r m4 q4 => ⟨q4.1, ?_⟩) (c228 xs d (l := l) (bb := bb) (q := q) (n := n) (r := gT D cs (N + 1) (i + 1) (bb - 1)) (ko := st.1 i) (le := st.2.2) (w := st.1) (m := m3) (by omega) b3 (by omega) n1 g1 (by rw [k3.2.2, f47]; exact vi) (by rw [k3.1, f48]) (by rw [k3.2.1, f49]) (fun z => by rw [gTe, ← s5 z]; exact g3) (fun z => by rw [gTe, ← s5 z]; exact g5) (fun z => by rw [gTe, ← s5 z]; exact hv') (fun x x1 x2 => by rw [kl3.2.2.2.2.2 x (by omega), kbv.2.2.2.2 x (by omega)]; exact v2 x (by omega) x2) (by rw [k3l.2, kbl.2.2.2.2]; exact v5))
            obtain ⟨-, p7, pw', p51, ebv⟩ := q4
            refine w226_178 xs (d + 2) _ _ _ m4 _ ?_
            rw [nI_1, show bb - 1 + 1 = bb by omega]
            have klf : KLv l q m1 m4 := by
              refine ⟨fun a x x1 x2 x3 => ?_, fun x x1 => ?_, fun j hj => ?_, fun j hj => ?_, fun a x1 x2 x3 x4 => ?_, fun x hx => ?_⟩
              · rw [ebv.1 a x (fun z => x1 z.1), kl3.1 a x x1 x2 x3, kbv.1 a x x1 x2 x3]
              · rw [ebv.1 45 x (fun z => x1 z.2), kl3.2.1 x x1, kbv.2.1 x x1]
              · have y1 := kl3.2.2.1 j (by omega)
                have y2 := kbv.2.2.1 j hj
                refine ⟨?_, ?_, ?_⟩
                · rw [ebv.1 48 j (by omega), y1.1, y2.1]
                · rw [ebv.1 49 j (by omega), y1.2.1, y2.2.1]
                · rw [ebv.2.1 47 (by omega) (by omega), y1.2.2, y2.2.2.1]
              · have y1 := kl3.2.2.2.1 j (by omega)
                have y2 := kbv.2.2.1 j (by omega)
                refine ⟨?_, ?_⟩
                · rw [ebv.2.1 50 (by omega) (by omega), y1.1, y2.2.2.2.1]
                · rw [ebv.2.2.2 j (by omega), y1.2, y2.2.2.2.2]
              · rw [ebv.2.1 a x1 x4, kl3.2.2.2.2.1 a x1 x2 x3 x4, kbv.2.2.2.1 a x1 x2 x3 x4]
              · rw [ebv.2.2.1 x (by omega), kl3.2.2.2.2.2 x (by omega), kbv.2.2.2.2 x (by omega)]
            have gse : gSt D cs (gT D cs (N + 1)) q i st = (upM st.1 bb ((st.1 i).bind (lpE (gT D cs (N + 1) (i + 1) (bb - 1)) n)), st.2.1, omx st.2.2 ((st.1 i).bind (lpL (gT D cs (N + 1) (i + 1) (bb - 1)) n))) := by
              unfold gSt
              cases hdd : st.1 i with
              | none =>
                show st = (upM st.1 bb none, st.2.1, omx st.2.2 none)
                have : upM st.1 bb none = st.1 := by
                  funext j
                  unfold upM
                  split
                  · rw [omx_n]
                  · rfl
                rw [this, omx_n]
              | some dd =>
                dsimp only
                rw [if_pos o13, en, n3, nI_clamp (by omega)]
                rfl
            rw [en] at hQ
            refine ih bb q out (gSt D cs (gT D cs (N + 1)) q i st) m4 K Q (by rw [← en]; exact rest) (by omega) hq ho (hc.k klf) ?_ ?_ (fun m5 lv5 kl5 => hQ m5 lv5 (klf.tr kl5 (Nat.le_refl _) (Nat.le_refl _)))
            · rw [gse]
              refine ⟨p7, pw', fun z => ?_, v4, p51⟩
              have w3 := v3 z
              rw [ebv.2.1 50 (by omega) (by omega), ebv.1 48 l (by omega), k3l.1, (kl3.2.2.1 l (by omega)).1, kbl.1, kbl.2.2.2.1]
              exact w3
            · rw [gse]
              exact hT1.up ⟨0, rfl⟩ _
        refine w226_178 xs (d + 2) _ _ _ m2 _ ?_
        rw [nI_1]
        cases hdd : st.1 i with
        | none =>
          rw [hdd] at vi
          refine body (fun _ => none, none, none) rfl rfl (fun _ _ => rfl) ?_ (fun ko hko z => absurd (hko.trans hdd) z)
          rw [f46, if_pos ((AB.lt vi).2.mpr rfl)]
          have := v2 (i + 1) (by omega) (by omega)
          rw [hT2 (i + 1) (by omega) (by omega) (by omega)] at this
          exact this
        | some dd =>
          rw [hdd] at vi
          refine body (fun k => if k = i + 1 then some 0 else none, none, none) rfl rfl (fun k hk => ?_) ?_ (fun _ _ _ => rfl)
          · show (if k = i + 1 then some 0 else none) = none
            rw [if_neg (by omega)]
          · rw [f46, if_neg (fun z => by have := (AB.lt vi).2.mp z; cases this)]
            have := v2 (i + 1) (by omega) (by omega)
            rw [hT2 (i + 1) (by omega) (by omega) (by omega)] at this
            have this : (m1.2 46 (i + 1)).toInt = -1 := this
            show AB _ ((if i + 1 = i + 1 then some 0 else none).map (· + 1)) _
            rw [if_pos rfl]
            refine (AB.con (t := 1) ?_).w (by omega)
            rw [cmV_i, this]
            rfl
      · exact c226p xs d hS hU hcs (by omega) lt nl ok rest o13 hq ho hK hc hv hT ih hQ
/-- what the pass leaves alone -/
def K26 (m m' : yM) : Prop := (∀ a i, ¬ a = 45 → ¬ a = 48 → ¬ a = 49 → m'.1 a i = m.1 a i) ∧ (∀ i, ¬ i = 7 → m'.1 45 i = m.1 45 i) ∧ ∀ a, ¬ a = 46 → ¬ a = 47 → ¬ a = 50 → ¬ a = 51 → m'.2 a = m.2 a
theorem c226 (xs : List Int32) (d : Nat) {D : List IT} {S b U N : Nat} {B : Nat → Int} {cs : Nat → Nat} {m : yM} (h : CD D S b m) (hU : U ≤ 16) (hcs : CSt D U cs B) (hB : ∀ x, x < U → (m.1 41 x).toInt = B x) (hN : N ≤ 61) (hl : LPz D U N none 0 D.length) : yC (xg xs) (d + 3) 226 [.ref 45, .int (nI b)] m (fun r m' => (∃ v, r = some (.long v) ∧ AB 1000000000001 (omx (gT D cs (N + 1) 0 D.length).1 (gT D cs (N + 1) 0 D.length).2.2) v) ∧ K26 m m') := by
  have hS := h.1
  have hb := h.2.1
  obtain ⟨k, hl⟩ := hl
  refine w226_0 xs (d + 2) _ m _ ⟨x_in_nI hb (by decide), y_ci (c220d xs (d + 1) h) (by omega) ?_⟩
  rw [nI_clamp (by omega), h.2.2.1, nI_1]
  refine yC.mono (by omega) (fun r m1 q => ⟨q.1, ?_⟩) (c221 xs (d + 1) m (n := D.length + 1) (by omega) (-1))
  obtain ⟨-, k1, v1⟩ := q
  generalize hM : (y_sl (y_si (y_sl m1 46 0 0) 45 7 0) 51 0 (-1)) = M
  have i1 : ∀ a x, M.1 a x = (y_si m1 45 7 0).1 a x := fun a x => by rw [← hM]; rfl
  have i2 : ∀ a x, M.2 a x = (y_sl (y_sl m1 46 0 0) 51 0 (-1)).2 a x := fun a x => by rw [← hM]; rfl
  have ko : K26 m M := by
    refine ⟨fun a i x1 x2 x3 => ?_, fun i x1 => ?_, fun a x1 x2 x3 x4 => funext fun j => ?_⟩
    · rw [i1, y_si_at, if_neg (fun z => x1 z.1), k1.1]
    · rw [i1, y_si_at, if_neg (by omega), k1.1]
    · rw [i2, y_sl_at, if_neg (fun z => x4 z.1), y_sl_at, if_neg (fun z => x1 z.1), k1.2 a x1]
  have hc : CC D S U B M := by
    refine ⟨fun i x hx => ?_, fun x hx => ?_⟩
    · rw [ko.1 36 _ (by omega) (by omega) (by omega), ko.1 37 _ (by omega) (by omega) (by omega), ko.1 38 _ (by omega) (by omega) (by omega)]
      exact h.2.2.2.2 i x hx
    · rw [ko.1 41 _ (by omega) (by omega) (by omega)]
      exact hB x hx
  refine c226s xs d hS hU hcs N 0 (by omega) k 0 D.length none (fun k => if k = 0 then some 0 else none, none, none) M (D.length - 0) _ hl (Nat.le_refl _) (Nat.le_refl _) (fun t ht => by cases ht) hc ⟨?_, fun x x1 x2 => ?_, fun z => absurd z (Nat.lt_irrefl _), fun _ => rfl, ?_⟩ (fun x x1 x2 x3 => ?_) (fun m2 lv kl => ?_)
  · rw [i1, y_si_same]; rfl
  · have ee : M.2 46 x = (y_sl m1 46 0 0).2 46 x := by rw [i2, y_sl_at, if_neg (by omega)]
    show AB _ ((if x = 0 then some 0 else none).map (· + ofL 0)) _
    rw [ee]
    by_cases c : x = 0
    · rw [c, if_pos rfl, y_sl_same]
      exact (AB.con (t := 0) rfl).w (by omega)
    · rw [if_neg c, y_sl_at, if_neg (fun z => c z.2), v1 x (by omega)]
      exact AB.n1
  · rw [i2, y_sl_same]
    exact AB.n1
  · have : x = 0 := by
      by_cases c : x = 0
      · exact c
      · exact absurd (show (if x = 0 then some 0 else none) = none from if_neg c) x3
    exact ⟨0, this.symm⟩
  · obtain ⟨-, l2, -, -, l5⟩ := lv
    have a := l2 D.length (Nat.le_refl _) (Nat.le_refl _)
    have e0 : ∀ o : Option Nat, o.map (· + ofL 0) = o := fun o => by cases o <;> rfl
    rw [e0] at a l5
    refine w226_57 xs (d + 2) _ _ _ m2 _ ⟨fun _ => ⟨x_in_nI (by omega) (by decide), ⟨_, rfl, ?_⟩, ?_⟩, fun z => absurd (nI_le (Nat.le_refl _) (by omega)) z⟩
    · rw [nI_clamp (by omega)]
      exact (a.w (by omega)).mx l5 (mxV_i _ _)
    · refine ⟨fun a i x1 x2 x3 => ?_, fun i x1 => ?_, fun a x1 x2 x3 x4 => ?_⟩
      · rw [kl.1 a i x1 x2 x3, ko.1 a i x1 x2 x3]
      · rw [kl.2.1 i x1, ko.2.1 i x1]
      · rw [kl.2.2.2.2.1 a x1 x2 x3 x4, ko.2.2 a x1 x2 x3 x4]
