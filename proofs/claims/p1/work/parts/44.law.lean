/-! THE LAW'S LOOP over contracts of the ten calls: laid by wip/gen/law.py -/
/-- a call: class and reference answer alike, and the invariant is kept -/
def opOk (xs : List Int32) (D : Nat) (Inv Inv' : yM → Prop) (jx jm : Nat) (as : List Value) : Prop := ∀ m, Inv m → yC (xg xs) D jx (.ref 0 :: as) m (fun r m1 => ∃ v : Int32, r = some (.int v) ∧ yC (xg xs) D jm (.ref 58 :: as) m1 (fun r2 m2 => r2 = some (.int v) ∧ Inv' m2))
theorem law_ix {t K : Nat} {xs : List Int32} (hL : xs.length ≤ 6) (h : 6 * t + K < xs.length) : x_in (nI (6 * t) + nI K) xs.length = true := by
  rw [nI_add]
  exact x_in_nI h (by omega)
set_option maxRecDepth 20000 in
set_option maxHeartbeats 4000000 in
theorem law_loop (xs : List Int32) (hL : xs.length ≤ 6) (D : Nat) (Inv : Nat → yM → Prop) (hkeep : ∀ t m, Inv t m → Inv (t + 1) m) (o0 : ∀ t, 6 * t + 6 ≤ xs.length → opOk xs D (Inv t) (Inv (t + 1)) 14 265 []) (o1 : ∀ t, 6 * t + 6 ≤ xs.length → ∀ a1 a2 a3 a4 a5 : Int32, opOk xs D (Inv t) (Inv (t + 1)) 15 266 [.int a1, .int a2, .int a3, .int a4, .int a5]) (o2 : ∀ t, 6 * t + 6 ≤ xs.length → ∀ a1 : Int32, opOk xs D (Inv t) (Inv (t + 1)) 17 268 [.int a1]) (o3 : ∀ t, 6 * t + 6 ≤ xs.length → opOk xs D (Inv t) (Inv (t + 1)) 18 269 []) (o4 : ∀ t, 6 * t + 6 ≤ xs.length → ∀ a1 : Int32, opOk xs D (Inv t) (Inv (t + 1)) 235 403 [.int a1]) (o5 : ∀ t, 6 * t + 6 ≤ xs.length → ∀ a1 : Int32, opOk xs D (Inv t) (Inv (t + 1)) 236 404 [.int a1]) (o6 : ∀ t, 6 * t + 6 ≤ xs.length → ∀ a1 a2 a3 : Int32, opOk xs D (Inv t) (Inv (t + 1)) 238 405 [.int a1, .int a2, .int a3]) (o7 : ∀ t, 6 * t + 6 ≤ xs.length → ∀ a1 a2 : Int32, opOk xs D (Inv t) (Inv (t + 1)) 239 406 [.int a1, .int a2]) (o8 : ∀ t, 6 * t + 6 ≤ xs.length → ∀ a1 : Int32, opOk xs D (Inv t) (Inv (t + 1)) 241 407 [.int a1]) (o9 : ∀ t, 6 * t + 6 ≤ xs.length → ∀ a1 : Int32, opOk xs D (Inv t) (Inv (t + 1)) 242 394 [.int a1]) :
    ∀ (n t : Nat) (i : Int32) (m : yM), i = nI (6 * t) → 6 * t ≤ xs.length → xs.length < 6 * t + 6 * n → Inv t m → yP (xg xs) (D + 1) 0 18 [(3, .int i), (2, .ref 58), (1, .ref 0), (0, .retAddr 1)] [] m (fun r _ => r = some (.int 1)) := by
  intro n
  induction n with
  | zero => intro t i m hi h1 h2; exact absurd h2 (by omega)
  | succ n ih =>
    intro t i m hi ht hn hI
    refine y_st rfl rfl rfl rfl rfl (fun _ _ => rfl) ?_
    refine y_st rfl rfl rfl rfl rfl (fun _ _ => rfl) ?_
    refine y_st rfl rfl rfl rfl rfl (fun _ _ => rfl) ?_
    refine y_st rfl rfl rfl rfl rfl (fun _ _ => rfl) ?_
    refine y_st rfl rfl rfl rfl rfl (fun _ _ => rfl) ?_
    show yP (xg xs) (D + 1) 0 24 [(3, .int i), (2, .ref 58), (1, .ref 0), (0, .retAddr 1)] [.int (Int32.ofNat xs.length - (6 : Int32)), .int i] m _
    refine y_igt (t := 374) rfl rfl rfl (fun h24 => ?_) (fun h24 => ?_)
    · refine y_st rfl rfl rfl rfl rfl (fun _ _ => rfl) ?_
      exact y_zret rfl rfl rfl (Or.inr rfl) rfl
    · have hlt : 6 * t + 6 ≤ xs.length := by
        rw [hi] at h24
        rcases Nat.lt_or_ge xs.length 6 with q | q
        · exfalso
          apply h24
          show nI xs.length - nI 6 < nI (6 * t)
          have e1 : (nI xs.length - nI 6).toInt = (xs.length : Int) - 6 := pk_sub_toInt (by omega) (by decide)
          rw [Int32.lt_iff_toInt_lt, e1, nI_toInt (by omega)]
          omega
        · have e1 : Int32.ofNat xs.length - (6 : Int32) = nI (xs.length - 6) := pk_sub q
          rw [e1, nI_ltI (by omega) (by omega)] at h24
          omega
      refine y_st rfl rfl rfl rfl rfl (fun _ _ => rfl) ?_
      refine y_st rfl rfl rfl rfl rfl (fun _ _ => rfl) ?_
      show yP (xg xs) (D + 1) 0 29 [(3, .int i), (2, .ref 58), (1, .ref 0), (0, .retAddr 1)] [.int i, .retAddr 1] m _
      refine y_cald (l := xs) rfl rfl rfl (by rw [hi]; exact x_in_nI (by omega) (by omega)) ?_
      refine y_st rfl rfl rfl rfl rfl (fun _ _ => rfl) ?_
      refine y_st rfl rfl rfl rfl rfl (fun _ _ => rfl) ?_
      show yP (xg xs) (D + 1) 0 33 [(3, .int i), (2, .ref 58), (1, .ref 0), (0, .retAddr 1)] [.int (xs.getD i.toNatClampNeg 0 &&& 15)] m _
      obtain ⟨j, hj, ej⟩ := pk_andE (xs.getD i.toNatClampNeg 0) (m := 15) 4 (by decide)
      rw [ej]
      have nxt : i + 6 = nI (6 * (t + 1)) := by
        rw [hi]
        show nI (6 * t) + nI 6 = _
        rw [nI_add]
        congr 1
      rcases (show j = 0 ∨ j = 1 ∨ j = 2 ∨ j = 3 ∨ j = 4 ∨ j = 5 ∨ j = 6 ∨ j = 7 ∨ j = 8 ∨ j = 9 ∨ j = 10 ∨ j = 11 ∨ j = 12 ∨ j = 13 ∨ j = 14 ∨ j = 15 by omega) with rfl | rfl | rfl | rfl | rfl | rfl | rfl | rfl | rfl | rfl | rfl | rfl | rfl | rfl | rfl | rfl
      · refine y_tsw (t := 88) rfl rfl rfl ?_
        refine y_st rfl rfl rfl rfl rfl (fun _ _ => rfl) ?_
        show yP (xg xs) (D + 1) 0 89 [(3, .int i), (2, .ref 58), (1, .ref 0), (0, .retAddr 1)] [.ref 0] m _
        refine y_call rfl rfl rfl rfl rfl (Nat.le_of_ble_eq_true rfl) (Nat.le_of_ble_eq_true rfl) rfl (by decide) (o0 t hlt  m hI) (fun v1 m1 q1 => ?_)
        obtain ⟨u, rfl, hY⟩ := q1
        refine y_st rfl rfl rfl rfl rfl (fun _ _ => rfl) ?_
        show yP (xg xs) (D + 1) 0 93 [(3, .int i), (2, .ref 58), (1, .ref 0), (0, .retAddr 1)] [.ref 58, .int u] m1 _
        refine y_call rfl rfl rfl rfl rfl (Nat.le_of_ble_eq_true rfl) (Nat.le_of_ble_eq_true rfl) rfl (by decide) (hY) (fun v2 m2 q2 => ?_)
        obtain ⟨rfl, hI2⟩ := q2
        show yP (xg xs) (D + 1) 0 96 [(3, .int i), (2, .ref 58), (1, .ref 0), (0, .retAddr 1)] [.int u, .int u] m2 _
        refine y_ieq (t := 368) rfl rfl rfl (fun h96 => ?_) (fun h96 => ?_)
        · refine y_st rfl rfl rfl rfl rfl (fun _ _ => rfl) ?_
          refine y_st rfl rfl rfl rfl rfl (fun _ _ => rfl) ?_
          show yP (xg xs) (D + 1) 0 18 [(3, .int (i + (6 : Int32))), (2, .ref 58), (1, .ref 0), (0, .retAddr 1)] [] m2 _
          refine y_head (l2 := [(3, .int (i + (6 : Int32))), (2, .ref 58), (1, .ref 0), (0, .retAddr 1)]) [0, 1, 2, 3] [3, 2, 1, 0] 4 rfl (by decide) rfl rfl (by decide) ?_
          exact ih (t + 1) _ _ nxt (by omega) (by omega) hI2
        · exact absurd rfl h96
      · refine y_tsw (t := 101) rfl rfl rfl ?_
        refine y_st rfl rfl rfl rfl rfl (fun _ _ => rfl) ?_
        refine y_st rfl rfl rfl rfl rfl (fun _ _ => rfl) ?_
        refine y_st rfl rfl rfl rfl rfl (fun _ _ => rfl) ?_
        refine y_st rfl rfl rfl rfl rfl (fun _ _ => rfl) ?_
        refine y_st rfl rfl rfl rfl rfl (fun _ _ => rfl) ?_
        show yP (xg xs) (D + 1) 0 106 [(3, .int i), (2, .ref 58), (1, .ref 0), (0, .retAddr 1)] [.int (i + (1 : Int32)), .retAddr 1, .ref 0] m _
        refine y_cald rfl rfl rfl (by rw [hi]; exact law_ix hL (K := 1) (by omega)) ?_
        refine y_st rfl rfl rfl rfl rfl (fun _ _ => rfl) ?_
        refine y_st rfl rfl rfl rfl rfl (fun _ _ => rfl) ?_
        refine y_st rfl rfl rfl rfl rfl (fun _ _ => rfl) ?_
        refine y_st rfl rfl rfl rfl rfl (fun _ _ => rfl) ?_
        show yP (xg xs) (D + 1) 0 111 [(3, .int i), (2, .ref 58), (1, .ref 0), (0, .retAddr 1)] [.int (i + (2 : Int32)), .retAddr 1, .int ((xs).getD (i + (1 : Int32)).toNatClampNeg 0), .ref 0] m _
        refine y_cald rfl rfl rfl (by rw [hi]; exact law_ix hL (K := 2) (by omega)) ?_
        refine y_st rfl rfl rfl rfl rfl (fun _ _ => rfl) ?_
        refine y_st rfl rfl rfl rfl rfl (fun _ _ => rfl) ?_
        refine y_st rfl rfl rfl rfl rfl (fun _ _ => rfl) ?_
        refine y_st rfl rfl rfl rfl rfl (fun _ _ => rfl) ?_
        show yP (xg xs) (D + 1) 0 116 [(3, .int i), (2, .ref 58), (1, .ref 0), (0, .retAddr 1)] [.int (i + (3 : Int32)), .retAddr 1, .int ((xs).getD (i + (2 : Int32)).toNatClampNeg 0), .int ((xs).getD (i + (1 : Int32)).toNatClampNeg 0), .ref 0] m _
        refine y_cald rfl rfl rfl (by rw [hi]; exact law_ix hL (K := 3) (by omega)) ?_
        refine y_st rfl rfl rfl rfl rfl (fun _ _ => rfl) ?_
        refine y_st rfl rfl rfl rfl rfl (fun _ _ => rfl) ?_
        refine y_st rfl rfl rfl rfl rfl (fun _ _ => rfl) ?_
        refine y_st rfl rfl rfl rfl rfl (fun _ _ => rfl) ?_
        show yP (xg xs) (D + 1) 0 121 [(3, .int i), (2, .ref 58), (1, .ref 0), (0, .retAddr 1)] [.int (i + (4 : Int32)), .retAddr 1, .int ((xs).getD (i + (3 : Int32)).toNatClampNeg 0), .int ((xs).getD (i + (2 : Int32)).toNatClampNeg 0), .int ((xs).getD (i + (1 : Int32)).toNatClampNeg 0), .ref 0] m _
        refine y_cald rfl rfl rfl (by rw [hi]; exact law_ix hL (K := 4) (by omega)) ?_
        refine y_st rfl rfl rfl rfl rfl (fun _ _ => rfl) ?_
        refine y_st rfl rfl rfl rfl rfl (fun _ _ => rfl) ?_
        refine y_st rfl rfl rfl rfl rfl (fun _ _ => rfl) ?_
        refine y_st rfl rfl rfl rfl rfl (fun _ _ => rfl) ?_
        show yP (xg xs) (D + 1) 0 126 [(3, .int i), (2, .ref 58), (1, .ref 0), (0, .retAddr 1)] [.int (i + (5 : Int32)), .retAddr 1, .int ((xs).getD (i + (4 : Int32)).toNatClampNeg 0), .int ((xs).getD (i + (3 : Int32)).toNatClampNeg 0), .int ((xs).getD (i + (2 : Int32)).toNatClampNeg 0), .int ((xs).getD (i + (1 : Int32)).toNatClampNeg 0), .ref 0] m _
        refine y_cald rfl rfl rfl (by rw [hi]; exact law_ix hL (K := 5) (by omega)) ?_
        show yP (xg xs) (D + 1) 0 127 [(3, .int i), (2, .ref 58), (1, .ref 0), (0, .retAddr 1)] [.int ((xs).getD (i + (5 : Int32)).toNatClampNeg 0), .int ((xs).getD (i + (4 : Int32)).toNatClampNeg 0), .int ((xs).getD (i + (3 : Int32)).toNatClampNeg 0), .int ((xs).getD (i + (2 : Int32)).toNatClampNeg 0), .int ((xs).getD (i + (1 : Int32)).toNatClampNeg 0), .ref 0] m _
        refine y_call rfl rfl rfl rfl rfl (Nat.le_of_ble_eq_true rfl) (Nat.le_of_ble_eq_true rfl) rfl (by decide) (o1 t hlt ((xs).getD (i + (1 : Int32)).toNatClampNeg 0) ((xs).getD (i + (2 : Int32)).toNatClampNeg 0) ((xs).getD (i + (3 : Int32)).toNatClampNeg 0) ((xs).getD (i + (4 : Int32)).toNatClampNeg 0) ((xs).getD (i + (5 : Int32)).toNatClampNeg 0) m hI) (fun v1 m1 q1 => ?_)
        obtain ⟨u, rfl, hY⟩ := q1
        refine y_st rfl rfl rfl rfl rfl (fun _ _ => rfl) ?_
        refine y_st rfl rfl rfl rfl rfl (fun _ _ => rfl) ?_
        refine y_st rfl rfl rfl rfl rfl (fun _ _ => rfl) ?_
        refine y_st rfl rfl rfl rfl rfl (fun _ _ => rfl) ?_
        refine y_st rfl rfl rfl rfl rfl (fun _ _ => rfl) ?_
        show yP (xg xs) (D + 1) 0 135 [(3, .int i), (2, .ref 58), (1, .ref 0), (0, .retAddr 1)] [.int (i + (1 : Int32)), .retAddr 1, .ref 58, .int u] m1 _
        refine y_cald rfl rfl rfl (by rw [hi]; exact law_ix hL (K := 1) (by omega)) ?_
        refine y_st rfl rfl rfl rfl rfl (fun _ _ => rfl) ?_
        refine y_st rfl rfl rfl rfl rfl (fun _ _ => rfl) ?_
        refine y_st rfl rfl rfl rfl rfl (fun _ _ => rfl) ?_
        refine y_st rfl rfl rfl rfl rfl (fun _ _ => rfl) ?_
        show yP (xg xs) (D + 1) 0 140 [(3, .int i), (2, .ref 58), (1, .ref 0), (0, .retAddr 1)] [.int (i + (2 : Int32)), .retAddr 1, .int ((xs).getD (i + (1 : Int32)).toNatClampNeg 0), .ref 58, .int u] m1 _
        refine y_cald rfl rfl rfl (by rw [hi]; exact law_ix hL (K := 2) (by omega)) ?_
        refine y_st rfl rfl rfl rfl rfl (fun _ _ => rfl) ?_
        refine y_st rfl rfl rfl rfl rfl (fun _ _ => rfl) ?_
        refine y_st rfl rfl rfl rfl rfl (fun _ _ => rfl) ?_
        refine y_st rfl rfl rfl rfl rfl (fun _ _ => rfl) ?_
        show yP (xg xs) (D + 1) 0 145 [(3, .int i), (2, .ref 58), (1, .ref 0), (0, .retAddr 1)] [.int (i + (3 : Int32)), .retAddr 1, .int ((xs).getD (i + (2 : Int32)).toNatClampNeg 0), .int ((xs).getD (i + (1 : Int32)).toNatClampNeg 0), .ref 58, .int u] m1 _
        refine y_cald rfl rfl rfl (by rw [hi]; exact law_ix hL (K := 3) (by omega)) ?_
        refine y_st rfl rfl rfl rfl rfl (fun _ _ => rfl) ?_
        refine y_st rfl rfl rfl rfl rfl (fun _ _ => rfl) ?_
        refine y_st rfl rfl rfl rfl rfl (fun _ _ => rfl) ?_
        refine y_st rfl rfl rfl rfl rfl (fun _ _ => rfl) ?_
        show yP (xg xs) (D + 1) 0 150 [(3, .int i), (2, .ref 58), (1, .ref 0), (0, .retAddr 1)] [.int (i + (4 : Int32)), .retAddr 1, .int ((xs).getD (i + (3 : Int32)).toNatClampNeg 0), .int ((xs).getD (i + (2 : Int32)).toNatClampNeg 0), .int ((xs).getD (i + (1 : Int32)).toNatClampNeg 0), .ref 58, .int u] m1 _
        refine y_cald rfl rfl rfl (by rw [hi]; exact law_ix hL (K := 4) (by omega)) ?_
        refine y_st rfl rfl rfl rfl rfl (fun _ _ => rfl) ?_
        refine y_st rfl rfl rfl rfl rfl (fun _ _ => rfl) ?_
        refine y_st rfl rfl rfl rfl rfl (fun _ _ => rfl) ?_
        refine y_st rfl rfl rfl rfl rfl (fun _ _ => rfl) ?_
        show yP (xg xs) (D + 1) 0 155 [(3, .int i), (2, .ref 58), (1, .ref 0), (0, .retAddr 1)] [.int (i + (5 : Int32)), .retAddr 1, .int ((xs).getD (i + (4 : Int32)).toNatClampNeg 0), .int ((xs).getD (i + (3 : Int32)).toNatClampNeg 0), .int ((xs).getD (i + (2 : Int32)).toNatClampNeg 0), .int ((xs).getD (i + (1 : Int32)).toNatClampNeg 0), .ref 58, .int u] m1 _
        refine y_cald rfl rfl rfl (by rw [hi]; exact law_ix hL (K := 5) (by omega)) ?_
        show yP (xg xs) (D + 1) 0 156 [(3, .int i), (2, .ref 58), (1, .ref 0), (0, .retAddr 1)] [.int ((xs).getD (i + (5 : Int32)).toNatClampNeg 0), .int ((xs).getD (i + (4 : Int32)).toNatClampNeg 0), .int ((xs).getD (i + (3 : Int32)).toNatClampNeg 0), .int ((xs).getD (i + (2 : Int32)).toNatClampNeg 0), .int ((xs).getD (i + (1 : Int32)).toNatClampNeg 0), .ref 58, .int u] m1 _
        refine y_call rfl rfl rfl rfl rfl (Nat.le_of_ble_eq_true rfl) (Nat.le_of_ble_eq_true rfl) rfl (by decide) (hY) (fun v2 m2 q2 => ?_)
        obtain ⟨rfl, hI2⟩ := q2
        show yP (xg xs) (D + 1) 0 159 [(3, .int i), (2, .ref 58), (1, .ref 0), (0, .retAddr 1)] [.int u, .int u] m2 _
        refine y_ieq (t := 368) rfl rfl rfl (fun h159 => ?_) (fun h159 => ?_)
        · refine y_st rfl rfl rfl rfl rfl (fun _ _ => rfl) ?_
          refine y_st rfl rfl rfl rfl rfl (fun _ _ => rfl) ?_
          show yP (xg xs) (D + 1) 0 18 [(3, .int (i + (6 : Int32))), (2, .ref 58), (1, .ref 0), (0, .retAddr 1)] [] m2 _
          refine y_head (l2 := [(3, .int (i + (6 : Int32))), (2, .ref 58), (1, .ref 0), (0, .retAddr 1)]) [0, 1, 2, 3] [3, 2, 1, 0] 4 rfl (by decide) rfl rfl (by decide) ?_
          exact ih (t + 1) _ _ nxt (by omega) (by omega) hI2
        · exact absurd rfl h159
      · refine y_tsw (t := 164) rfl rfl rfl ?_
        refine y_st rfl rfl rfl rfl rfl (fun _ _ => rfl) ?_
        refine y_st rfl rfl rfl rfl rfl (fun _ _ => rfl) ?_
        refine y_st rfl rfl rfl rfl rfl (fun _ _ => rfl) ?_
        refine y_st rfl rfl rfl rfl rfl (fun _ _ => rfl) ?_
        refine y_st rfl rfl rfl rfl rfl (fun _ _ => rfl) ?_
        show yP (xg xs) (D + 1) 0 169 [(3, .int i), (2, .ref 58), (1, .ref 0), (0, .retAddr 1)] [.int (i + (1 : Int32)), .retAddr 1, .ref 0] m _
        refine y_cald rfl rfl rfl (by rw [hi]; exact law_ix hL (K := 1) (by omega)) ?_
        show yP (xg xs) (D + 1) 0 170 [(3, .int i), (2, .ref 58), (1, .ref 0), (0, .retAddr 1)] [.int ((xs).getD (i + (1 : Int32)).toNatClampNeg 0), .ref 0] m _
        refine y_call rfl rfl rfl rfl rfl (Nat.le_of_ble_eq_true rfl) (Nat.le_of_ble_eq_true rfl) rfl (by decide) (o2 t hlt ((xs).getD (i + (1 : Int32)).toNatClampNeg 0) m hI) (fun v1 m1 q1 => ?_)
        obtain ⟨u, rfl, hY⟩ := q1
        refine y_st rfl rfl rfl rfl rfl (fun _ _ => rfl) ?_
        refine y_st rfl rfl rfl rfl rfl (fun _ _ => rfl) ?_
        refine y_st rfl rfl rfl rfl rfl (fun _ _ => rfl) ?_
        refine y_st rfl rfl rfl rfl rfl (fun _ _ => rfl) ?_
        refine y_st rfl rfl rfl rfl rfl (fun _ _ => rfl) ?_
        show yP (xg xs) (D + 1) 0 178 [(3, .int i), (2, .ref 58), (1, .ref 0), (0, .retAddr 1)] [.int (i + (1 : Int32)), .retAddr 1, .ref 58, .int u] m1 _
        refine y_cald rfl rfl rfl (by rw [hi]; exact law_ix hL (K := 1) (by omega)) ?_
        show yP (xg xs) (D + 1) 0 179 [(3, .int i), (2, .ref 58), (1, .ref 0), (0, .retAddr 1)] [.int ((xs).getD (i + (1 : Int32)).toNatClampNeg 0), .ref 58, .int u] m1 _
        refine y_call rfl rfl rfl rfl rfl (Nat.le_of_ble_eq_true rfl) (Nat.le_of_ble_eq_true rfl) rfl (by decide) (hY) (fun v2 m2 q2 => ?_)
        obtain ⟨rfl, hI2⟩ := q2
        show yP (xg xs) (D + 1) 0 182 [(3, .int i), (2, .ref 58), (1, .ref 0), (0, .retAddr 1)] [.int u, .int u] m2 _
        refine y_ieq (t := 368) rfl rfl rfl (fun h182 => ?_) (fun h182 => ?_)
        · refine y_st rfl rfl rfl rfl rfl (fun _ _ => rfl) ?_
          refine y_st rfl rfl rfl rfl rfl (fun _ _ => rfl) ?_
          show yP (xg xs) (D + 1) 0 18 [(3, .int (i + (6 : Int32))), (2, .ref 58), (1, .ref 0), (0, .retAddr 1)] [] m2 _
          refine y_head (l2 := [(3, .int (i + (6 : Int32))), (2, .ref 58), (1, .ref 0), (0, .retAddr 1)]) [0, 1, 2, 3] [3, 2, 1, 0] 4 rfl (by decide) rfl rfl (by decide) ?_
          exact ih (t + 1) _ _ nxt (by omega) (by omega) hI2
        · exact absurd rfl h182
      · refine y_tsw (t := 187) rfl rfl rfl ?_
        refine y_st rfl rfl rfl rfl rfl (fun _ _ => rfl) ?_
        show yP (xg xs) (D + 1) 0 188 [(3, .int i), (2, .ref 58), (1, .ref 0), (0, .retAddr 1)] [.ref 0] m _
        refine y_call rfl rfl rfl rfl rfl (Nat.le_of_ble_eq_true rfl) (Nat.le_of_ble_eq_true rfl) rfl (by decide) (o3 t hlt  m hI) (fun v1 m1 q1 => ?_)
        obtain ⟨u, rfl, hY⟩ := q1
        refine y_st rfl rfl rfl rfl rfl (fun _ _ => rfl) ?_
        show yP (xg xs) (D + 1) 0 192 [(3, .int i), (2, .ref 58), (1, .ref 0), (0, .retAddr 1)] [.ref 58, .int u] m1 _
        refine y_call rfl rfl rfl rfl rfl (Nat.le_of_ble_eq_true rfl) (Nat.le_of_ble_eq_true rfl) rfl (by decide) (hY) (fun v2 m2 q2 => ?_)
        obtain ⟨rfl, hI2⟩ := q2
        show yP (xg xs) (D + 1) 0 195 [(3, .int i), (2, .ref 58), (1, .ref 0), (0, .retAddr 1)] [.int u, .int u] m2 _
        refine y_ieq (t := 368) rfl rfl rfl (fun h195 => ?_) (fun h195 => ?_)
        · refine y_st rfl rfl rfl rfl rfl (fun _ _ => rfl) ?_
          refine y_st rfl rfl rfl rfl rfl (fun _ _ => rfl) ?_
          show yP (xg xs) (D + 1) 0 18 [(3, .int (i + (6 : Int32))), (2, .ref 58), (1, .ref 0), (0, .retAddr 1)] [] m2 _
          refine y_head (l2 := [(3, .int (i + (6 : Int32))), (2, .ref 58), (1, .ref 0), (0, .retAddr 1)]) [0, 1, 2, 3] [3, 2, 1, 0] 4 rfl (by decide) rfl rfl (by decide) ?_
          exact ih (t + 1) _ _ nxt (by omega) (by omega) hI2
        · exact absurd rfl h195
      · refine y_tsw (t := 200) rfl rfl rfl ?_
        refine y_st rfl rfl rfl rfl rfl (fun _ _ => rfl) ?_
        refine y_st rfl rfl rfl rfl rfl (fun _ _ => rfl) ?_
        refine y_st rfl rfl rfl rfl rfl (fun _ _ => rfl) ?_
        refine y_st rfl rfl rfl rfl rfl (fun _ _ => rfl) ?_
        refine y_st rfl rfl rfl rfl rfl (fun _ _ => rfl) ?_
        show yP (xg xs) (D + 1) 0 205 [(3, .int i), (2, .ref 58), (1, .ref 0), (0, .retAddr 1)] [.int (i + (1 : Int32)), .retAddr 1, .ref 0] m _
        refine y_cald rfl rfl rfl (by rw [hi]; exact law_ix hL (K := 1) (by omega)) ?_
        show yP (xg xs) (D + 1) 0 206 [(3, .int i), (2, .ref 58), (1, .ref 0), (0, .retAddr 1)] [.int ((xs).getD (i + (1 : Int32)).toNatClampNeg 0), .ref 0] m _
        refine y_call rfl rfl rfl rfl rfl (Nat.le_of_ble_eq_true rfl) (Nat.le_of_ble_eq_true rfl) rfl (by decide) (o4 t hlt ((xs).getD (i + (1 : Int32)).toNatClampNeg 0) m hI) (fun v1 m1 q1 => ?_)
        obtain ⟨u, rfl, hY⟩ := q1
        refine y_st rfl rfl rfl rfl rfl (fun _ _ => rfl) ?_
        refine y_st rfl rfl rfl rfl rfl (fun _ _ => rfl) ?_
        refine y_st rfl rfl rfl rfl rfl (fun _ _ => rfl) ?_
        refine y_st rfl rfl rfl rfl rfl (fun _ _ => rfl) ?_
        refine y_st rfl rfl rfl rfl rfl (fun _ _ => rfl) ?_
        show yP (xg xs) (D + 1) 0 214 [(3, .int i), (2, .ref 58), (1, .ref 0), (0, .retAddr 1)] [.int (i + (1 : Int32)), .retAddr 1, .ref 58, .int u] m1 _
        refine y_cald rfl rfl rfl (by rw [hi]; exact law_ix hL (K := 1) (by omega)) ?_
        show yP (xg xs) (D + 1) 0 215 [(3, .int i), (2, .ref 58), (1, .ref 0), (0, .retAddr 1)] [.int ((xs).getD (i + (1 : Int32)).toNatClampNeg 0), .ref 58, .int u] m1 _
        refine y_call rfl rfl rfl rfl rfl (Nat.le_of_ble_eq_true rfl) (Nat.le_of_ble_eq_true rfl) rfl (by decide) (hY) (fun v2 m2 q2 => ?_)
        obtain ⟨rfl, hI2⟩ := q2
        show yP (xg xs) (D + 1) 0 218 [(3, .int i), (2, .ref 58), (1, .ref 0), (0, .retAddr 1)] [.int u, .int u] m2 _
        refine y_ieq (t := 368) rfl rfl rfl (fun h218 => ?_) (fun h218 => ?_)
        · refine y_st rfl rfl rfl rfl rfl (fun _ _ => rfl) ?_
          refine y_st rfl rfl rfl rfl rfl (fun _ _ => rfl) ?_
          show yP (xg xs) (D + 1) 0 18 [(3, .int (i + (6 : Int32))), (2, .ref 58), (1, .ref 0), (0, .retAddr 1)] [] m2 _
          refine y_head (l2 := [(3, .int (i + (6 : Int32))), (2, .ref 58), (1, .ref 0), (0, .retAddr 1)]) [0, 1, 2, 3] [3, 2, 1, 0] 4 rfl (by decide) rfl rfl (by decide) ?_
          exact ih (t + 1) _ _ nxt (by omega) (by omega) hI2
        · exact absurd rfl h218
      · refine y_tsw (t := 223) rfl rfl rfl ?_
        refine y_st rfl rfl rfl rfl rfl (fun _ _ => rfl) ?_
        refine y_st rfl rfl rfl rfl rfl (fun _ _ => rfl) ?_
        refine y_st rfl rfl rfl rfl rfl (fun _ _ => rfl) ?_
        refine y_st rfl rfl rfl rfl rfl (fun _ _ => rfl) ?_
        refine y_st rfl rfl rfl rfl rfl (fun _ _ => rfl) ?_
        show yP (xg xs) (D + 1) 0 228 [(3, .int i), (2, .ref 58), (1, .ref 0), (0, .retAddr 1)] [.int (i + (1 : Int32)), .retAddr 1, .ref 0] m _
        refine y_cald rfl rfl rfl (by rw [hi]; exact law_ix hL (K := 1) (by omega)) ?_
        show yP (xg xs) (D + 1) 0 229 [(3, .int i), (2, .ref 58), (1, .ref 0), (0, .retAddr 1)] [.int ((xs).getD (i + (1 : Int32)).toNatClampNeg 0), .ref 0] m _
        refine y_call rfl rfl rfl rfl rfl (Nat.le_of_ble_eq_true rfl) (Nat.le_of_ble_eq_true rfl) rfl (by decide) (o5 t hlt ((xs).getD (i + (1 : Int32)).toNatClampNeg 0) m hI) (fun v1 m1 q1 => ?_)
        obtain ⟨u, rfl, hY⟩ := q1
        refine y_st rfl rfl rfl rfl rfl (fun _ _ => rfl) ?_
        refine y_st rfl rfl rfl rfl rfl (fun _ _ => rfl) ?_
        refine y_st rfl rfl rfl rfl rfl (fun _ _ => rfl) ?_
        refine y_st rfl rfl rfl rfl rfl (fun _ _ => rfl) ?_
        refine y_st rfl rfl rfl rfl rfl (fun _ _ => rfl) ?_
        show yP (xg xs) (D + 1) 0 237 [(3, .int i), (2, .ref 58), (1, .ref 0), (0, .retAddr 1)] [.int (i + (1 : Int32)), .retAddr 1, .ref 58, .int u] m1 _
        refine y_cald rfl rfl rfl (by rw [hi]; exact law_ix hL (K := 1) (by omega)) ?_
        show yP (xg xs) (D + 1) 0 238 [(3, .int i), (2, .ref 58), (1, .ref 0), (0, .retAddr 1)] [.int ((xs).getD (i + (1 : Int32)).toNatClampNeg 0), .ref 58, .int u] m1 _
        refine y_call rfl rfl rfl rfl rfl (Nat.le_of_ble_eq_true rfl) (Nat.le_of_ble_eq_true rfl) rfl (by decide) (hY) (fun v2 m2 q2 => ?_)
        obtain ⟨rfl, hI2⟩ := q2
        show yP (xg xs) (D + 1) 0 241 [(3, .int i), (2, .ref 58), (1, .ref 0), (0, .retAddr 1)] [.int u, .int u] m2 _
        refine y_ieq (t := 368) rfl rfl rfl (fun h241 => ?_) (fun h241 => ?_)
        · refine y_st rfl rfl rfl rfl rfl (fun _ _ => rfl) ?_
          refine y_st rfl rfl rfl rfl rfl (fun _ _ => rfl) ?_
          show yP (xg xs) (D + 1) 0 18 [(3, .int (i + (6 : Int32))), (2, .ref 58), (1, .ref 0), (0, .retAddr 1)] [] m2 _
          refine y_head (l2 := [(3, .int (i + (6 : Int32))), (2, .ref 58), (1, .ref 0), (0, .retAddr 1)]) [0, 1, 2, 3] [3, 2, 1, 0] 4 rfl (by decide) rfl rfl (by decide) ?_
          exact ih (t + 1) _ _ nxt (by omega) (by omega) hI2
        · exact absurd rfl h241
      · refine y_tsw (t := 246) rfl rfl rfl ?_
        refine y_st rfl rfl rfl rfl rfl (fun _ _ => rfl) ?_
        refine y_st rfl rfl rfl rfl rfl (fun _ _ => rfl) ?_
        refine y_st rfl rfl rfl rfl rfl (fun _ _ => rfl) ?_
        refine y_st rfl rfl rfl rfl rfl (fun _ _ => rfl) ?_
        refine y_st rfl rfl rfl rfl rfl (fun _ _ => rfl) ?_
        show yP (xg xs) (D + 1) 0 251 [(3, .int i), (2, .ref 58), (1, .ref 0), (0, .retAddr 1)] [.int (i + (1 : Int32)), .retAddr 1, .ref 0] m _
        refine y_cald rfl rfl rfl (by rw [hi]; exact law_ix hL (K := 1) (by omega)) ?_
        refine y_st rfl rfl rfl rfl rfl (fun _ _ => rfl) ?_
        refine y_st rfl rfl rfl rfl rfl (fun _ _ => rfl) ?_
        refine y_st rfl rfl rfl rfl rfl (fun _ _ => rfl) ?_
        refine y_st rfl rfl rfl rfl rfl (fun _ _ => rfl) ?_
        show yP (xg xs) (D + 1) 0 256 [(3, .int i), (2, .ref 58), (1, .ref 0), (0, .retAddr 1)] [.int (i + (2 : Int32)), .retAddr 1, .int ((xs).getD (i + (1 : Int32)).toNatClampNeg 0), .ref 0] m _
        refine y_cald rfl rfl rfl (by rw [hi]; exact law_ix hL (K := 2) (by omega)) ?_
        refine y_st rfl rfl rfl rfl rfl (fun _ _ => rfl) ?_
        refine y_st rfl rfl rfl rfl rfl (fun _ _ => rfl) ?_
        refine y_st rfl rfl rfl rfl rfl (fun _ _ => rfl) ?_
        refine y_st rfl rfl rfl rfl rfl (fun _ _ => rfl) ?_
        show yP (xg xs) (D + 1) 0 261 [(3, .int i), (2, .ref 58), (1, .ref 0), (0, .retAddr 1)] [.int (i + (3 : Int32)), .retAddr 1, .int ((xs).getD (i + (2 : Int32)).toNatClampNeg 0), .int ((xs).getD (i + (1 : Int32)).toNatClampNeg 0), .ref 0] m _
        refine y_cald rfl rfl rfl (by rw [hi]; exact law_ix hL (K := 3) (by omega)) ?_
        show yP (xg xs) (D + 1) 0 262 [(3, .int i), (2, .ref 58), (1, .ref 0), (0, .retAddr 1)] [.int ((xs).getD (i + (3 : Int32)).toNatClampNeg 0), .int ((xs).getD (i + (2 : Int32)).toNatClampNeg 0), .int ((xs).getD (i + (1 : Int32)).toNatClampNeg 0), .ref 0] m _
        refine y_call rfl rfl rfl rfl rfl (Nat.le_of_ble_eq_true rfl) (Nat.le_of_ble_eq_true rfl) rfl (by decide) (o6 t hlt ((xs).getD (i + (1 : Int32)).toNatClampNeg 0) ((xs).getD (i + (2 : Int32)).toNatClampNeg 0) ((xs).getD (i + (3 : Int32)).toNatClampNeg 0) m hI) (fun v1 m1 q1 => ?_)
        obtain ⟨u, rfl, hY⟩ := q1
        refine y_st rfl rfl rfl rfl rfl (fun _ _ => rfl) ?_
        refine y_st rfl rfl rfl rfl rfl (fun _ _ => rfl) ?_
        refine y_st rfl rfl rfl rfl rfl (fun _ _ => rfl) ?_
        refine y_st rfl rfl rfl rfl rfl (fun _ _ => rfl) ?_
        refine y_st rfl rfl rfl rfl rfl (fun _ _ => rfl) ?_
        show yP (xg xs) (D + 1) 0 270 [(3, .int i), (2, .ref 58), (1, .ref 0), (0, .retAddr 1)] [.int (i + (1 : Int32)), .retAddr 1, .ref 58, .int u] m1 _
        refine y_cald rfl rfl rfl (by rw [hi]; exact law_ix hL (K := 1) (by omega)) ?_
        refine y_st rfl rfl rfl rfl rfl (fun _ _ => rfl) ?_
        refine y_st rfl rfl rfl rfl rfl (fun _ _ => rfl) ?_
        refine y_st rfl rfl rfl rfl rfl (fun _ _ => rfl) ?_
        refine y_st rfl rfl rfl rfl rfl (fun _ _ => rfl) ?_
        show yP (xg xs) (D + 1) 0 275 [(3, .int i), (2, .ref 58), (1, .ref 0), (0, .retAddr 1)] [.int (i + (2 : Int32)), .retAddr 1, .int ((xs).getD (i + (1 : Int32)).toNatClampNeg 0), .ref 58, .int u] m1 _
        refine y_cald rfl rfl rfl (by rw [hi]; exact law_ix hL (K := 2) (by omega)) ?_
        refine y_st rfl rfl rfl rfl rfl (fun _ _ => rfl) ?_
        refine y_st rfl rfl rfl rfl rfl (fun _ _ => rfl) ?_
        refine y_st rfl rfl rfl rfl rfl (fun _ _ => rfl) ?_
        refine y_st rfl rfl rfl rfl rfl (fun _ _ => rfl) ?_
        show yP (xg xs) (D + 1) 0 280 [(3, .int i), (2, .ref 58), (1, .ref 0), (0, .retAddr 1)] [.int (i + (3 : Int32)), .retAddr 1, .int ((xs).getD (i + (2 : Int32)).toNatClampNeg 0), .int ((xs).getD (i + (1 : Int32)).toNatClampNeg 0), .ref 58, .int u] m1 _
        refine y_cald rfl rfl rfl (by rw [hi]; exact law_ix hL (K := 3) (by omega)) ?_
        show yP (xg xs) (D + 1) 0 281 [(3, .int i), (2, .ref 58), (1, .ref 0), (0, .retAddr 1)] [.int ((xs).getD (i + (3 : Int32)).toNatClampNeg 0), .int ((xs).getD (i + (2 : Int32)).toNatClampNeg 0), .int ((xs).getD (i + (1 : Int32)).toNatClampNeg 0), .ref 58, .int u] m1 _
        refine y_call rfl rfl rfl rfl rfl (Nat.le_of_ble_eq_true rfl) (Nat.le_of_ble_eq_true rfl) rfl (by decide) (hY) (fun v2 m2 q2 => ?_)
        obtain ⟨rfl, hI2⟩ := q2
        show yP (xg xs) (D + 1) 0 284 [(3, .int i), (2, .ref 58), (1, .ref 0), (0, .retAddr 1)] [.int u, .int u] m2 _
        refine y_ieq (t := 368) rfl rfl rfl (fun h284 => ?_) (fun h284 => ?_)
        · refine y_st rfl rfl rfl rfl rfl (fun _ _ => rfl) ?_
          refine y_st rfl rfl rfl rfl rfl (fun _ _ => rfl) ?_
          show yP (xg xs) (D + 1) 0 18 [(3, .int (i + (6 : Int32))), (2, .ref 58), (1, .ref 0), (0, .retAddr 1)] [] m2 _
          refine y_head (l2 := [(3, .int (i + (6 : Int32))), (2, .ref 58), (1, .ref 0), (0, .retAddr 1)]) [0, 1, 2, 3] [3, 2, 1, 0] 4 rfl (by decide) rfl rfl (by decide) ?_
          exact ih (t + 1) _ _ nxt (by omega) (by omega) hI2
        · exact absurd rfl h284
      · refine y_tsw (t := 289) rfl rfl rfl ?_
        refine y_st rfl rfl rfl rfl rfl (fun _ _ => rfl) ?_
        refine y_st rfl rfl rfl rfl rfl (fun _ _ => rfl) ?_
        refine y_st rfl rfl rfl rfl rfl (fun _ _ => rfl) ?_
        refine y_st rfl rfl rfl rfl rfl (fun _ _ => rfl) ?_
        refine y_st rfl rfl rfl rfl rfl (fun _ _ => rfl) ?_
        show yP (xg xs) (D + 1) 0 294 [(3, .int i), (2, .ref 58), (1, .ref 0), (0, .retAddr 1)] [.int (i + (1 : Int32)), .retAddr 1, .ref 0] m _
        refine y_cald rfl rfl rfl (by rw [hi]; exact law_ix hL (K := 1) (by omega)) ?_
        refine y_st rfl rfl rfl rfl rfl (fun _ _ => rfl) ?_
        refine y_st rfl rfl rfl rfl rfl (fun _ _ => rfl) ?_
        refine y_st rfl rfl rfl rfl rfl (fun _ _ => rfl) ?_
        refine y_st rfl rfl rfl rfl rfl (fun _ _ => rfl) ?_
        show yP (xg xs) (D + 1) 0 299 [(3, .int i), (2, .ref 58), (1, .ref 0), (0, .retAddr 1)] [.int (i + (2 : Int32)), .retAddr 1, .int ((xs).getD (i + (1 : Int32)).toNatClampNeg 0), .ref 0] m _
        refine y_cald rfl rfl rfl (by rw [hi]; exact law_ix hL (K := 2) (by omega)) ?_
        show yP (xg xs) (D + 1) 0 300 [(3, .int i), (2, .ref 58), (1, .ref 0), (0, .retAddr 1)] [.int ((xs).getD (i + (2 : Int32)).toNatClampNeg 0), .int ((xs).getD (i + (1 : Int32)).toNatClampNeg 0), .ref 0] m _
        refine y_call rfl rfl rfl rfl rfl (Nat.le_of_ble_eq_true rfl) (Nat.le_of_ble_eq_true rfl) rfl (by decide) (o7 t hlt ((xs).getD (i + (1 : Int32)).toNatClampNeg 0) ((xs).getD (i + (2 : Int32)).toNatClampNeg 0) m hI) (fun v1 m1 q1 => ?_)
        obtain ⟨u, rfl, hY⟩ := q1
        refine y_st rfl rfl rfl rfl rfl (fun _ _ => rfl) ?_
        refine y_st rfl rfl rfl rfl rfl (fun _ _ => rfl) ?_
        refine y_st rfl rfl rfl rfl rfl (fun _ _ => rfl) ?_
        refine y_st rfl rfl rfl rfl rfl (fun _ _ => rfl) ?_
        refine y_st rfl rfl rfl rfl rfl (fun _ _ => rfl) ?_
        show yP (xg xs) (D + 1) 0 308 [(3, .int i), (2, .ref 58), (1, .ref 0), (0, .retAddr 1)] [.int (i + (1 : Int32)), .retAddr 1, .ref 58, .int u] m1 _
        refine y_cald rfl rfl rfl (by rw [hi]; exact law_ix hL (K := 1) (by omega)) ?_
        refine y_st rfl rfl rfl rfl rfl (fun _ _ => rfl) ?_
        refine y_st rfl rfl rfl rfl rfl (fun _ _ => rfl) ?_
        refine y_st rfl rfl rfl rfl rfl (fun _ _ => rfl) ?_
        refine y_st rfl rfl rfl rfl rfl (fun _ _ => rfl) ?_
        show yP (xg xs) (D + 1) 0 313 [(3, .int i), (2, .ref 58), (1, .ref 0), (0, .retAddr 1)] [.int (i + (2 : Int32)), .retAddr 1, .int ((xs).getD (i + (1 : Int32)).toNatClampNeg 0), .ref 58, .int u] m1 _
        refine y_cald rfl rfl rfl (by rw [hi]; exact law_ix hL (K := 2) (by omega)) ?_
        show yP (xg xs) (D + 1) 0 314 [(3, .int i), (2, .ref 58), (1, .ref 0), (0, .retAddr 1)] [.int ((xs).getD (i + (2 : Int32)).toNatClampNeg 0), .int ((xs).getD (i + (1 : Int32)).toNatClampNeg 0), .ref 58, .int u] m1 _
        refine y_call rfl rfl rfl rfl rfl (Nat.le_of_ble_eq_true rfl) (Nat.le_of_ble_eq_true rfl) rfl (by decide) (hY) (fun v2 m2 q2 => ?_)
        obtain ⟨rfl, hI2⟩ := q2
        show yP (xg xs) (D + 1) 0 317 [(3, .int i), (2, .ref 58), (1, .ref 0), (0, .retAddr 1)] [.int u, .int u] m2 _
        refine y_ieq (t := 368) rfl rfl rfl (fun h317 => ?_) (fun h317 => ?_)
        · refine y_st rfl rfl rfl rfl rfl (fun _ _ => rfl) ?_
          refine y_st rfl rfl rfl rfl rfl (fun _ _ => rfl) ?_
          show yP (xg xs) (D + 1) 0 18 [(3, .int (i + (6 : Int32))), (2, .ref 58), (1, .ref 0), (0, .retAddr 1)] [] m2 _
          refine y_head (l2 := [(3, .int (i + (6 : Int32))), (2, .ref 58), (1, .ref 0), (0, .retAddr 1)]) [0, 1, 2, 3] [3, 2, 1, 0] 4 rfl (by decide) rfl rfl (by decide) ?_
          exact ih (t + 1) _ _ nxt (by omega) (by omega) hI2
        · exact absurd rfl h317
      · refine y_tsw (t := 322) rfl rfl rfl ?_
        refine y_st rfl rfl rfl rfl rfl (fun _ _ => rfl) ?_
        refine y_st rfl rfl rfl rfl rfl (fun _ _ => rfl) ?_
        refine y_st rfl rfl rfl rfl rfl (fun _ _ => rfl) ?_
        refine y_st rfl rfl rfl rfl rfl (fun _ _ => rfl) ?_
        refine y_st rfl rfl rfl rfl rfl (fun _ _ => rfl) ?_
        show yP (xg xs) (D + 1) 0 327 [(3, .int i), (2, .ref 58), (1, .ref 0), (0, .retAddr 1)] [.int (i + (1 : Int32)), .retAddr 1, .ref 0] m _
        refine y_cald rfl rfl rfl (by rw [hi]; exact law_ix hL (K := 1) (by omega)) ?_
        show yP (xg xs) (D + 1) 0 328 [(3, .int i), (2, .ref 58), (1, .ref 0), (0, .retAddr 1)] [.int ((xs).getD (i + (1 : Int32)).toNatClampNeg 0), .ref 0] m _
        refine y_call rfl rfl rfl rfl rfl (Nat.le_of_ble_eq_true rfl) (Nat.le_of_ble_eq_true rfl) rfl (by decide) (o8 t hlt ((xs).getD (i + (1 : Int32)).toNatClampNeg 0) m hI) (fun v1 m1 q1 => ?_)
        obtain ⟨u, rfl, hY⟩ := q1
        refine y_st rfl rfl rfl rfl rfl (fun _ _ => rfl) ?_
        refine y_st rfl rfl rfl rfl rfl (fun _ _ => rfl) ?_
        refine y_st rfl rfl rfl rfl rfl (fun _ _ => rfl) ?_
        refine y_st rfl rfl rfl rfl rfl (fun _ _ => rfl) ?_
        refine y_st rfl rfl rfl rfl rfl (fun _ _ => rfl) ?_
        show yP (xg xs) (D + 1) 0 336 [(3, .int i), (2, .ref 58), (1, .ref 0), (0, .retAddr 1)] [.int (i + (1 : Int32)), .retAddr 1, .ref 58, .int u] m1 _
        refine y_cald rfl rfl rfl (by rw [hi]; exact law_ix hL (K := 1) (by omega)) ?_
        show yP (xg xs) (D + 1) 0 337 [(3, .int i), (2, .ref 58), (1, .ref 0), (0, .retAddr 1)] [.int ((xs).getD (i + (1 : Int32)).toNatClampNeg 0), .ref 58, .int u] m1 _
        refine y_call rfl rfl rfl rfl rfl (Nat.le_of_ble_eq_true rfl) (Nat.le_of_ble_eq_true rfl) rfl (by decide) (hY) (fun v2 m2 q2 => ?_)
        obtain ⟨rfl, hI2⟩ := q2
        show yP (xg xs) (D + 1) 0 340 [(3, .int i), (2, .ref 58), (1, .ref 0), (0, .retAddr 1)] [.int u, .int u] m2 _
        refine y_ieq (t := 368) rfl rfl rfl (fun h340 => ?_) (fun h340 => ?_)
        · refine y_st rfl rfl rfl rfl rfl (fun _ _ => rfl) ?_
          refine y_st rfl rfl rfl rfl rfl (fun _ _ => rfl) ?_
          show yP (xg xs) (D + 1) 0 18 [(3, .int (i + (6 : Int32))), (2, .ref 58), (1, .ref 0), (0, .retAddr 1)] [] m2 _
          refine y_head (l2 := [(3, .int (i + (6 : Int32))), (2, .ref 58), (1, .ref 0), (0, .retAddr 1)]) [0, 1, 2, 3] [3, 2, 1, 0] 4 rfl (by decide) rfl rfl (by decide) ?_
          exact ih (t + 1) _ _ nxt (by omega) (by omega) hI2
        · exact absurd rfl h340
      · refine y_tsw (t := 345) rfl rfl rfl ?_
        refine y_st rfl rfl rfl rfl rfl (fun _ _ => rfl) ?_
        refine y_st rfl rfl rfl rfl rfl (fun _ _ => rfl) ?_
        refine y_st rfl rfl rfl rfl rfl (fun _ _ => rfl) ?_
        refine y_st rfl rfl rfl rfl rfl (fun _ _ => rfl) ?_
        refine y_st rfl rfl rfl rfl rfl (fun _ _ => rfl) ?_
        show yP (xg xs) (D + 1) 0 350 [(3, .int i), (2, .ref 58), (1, .ref 0), (0, .retAddr 1)] [.int (i + (1 : Int32)), .retAddr 1, .ref 0] m _
        refine y_cald rfl rfl rfl (by rw [hi]; exact law_ix hL (K := 1) (by omega)) ?_
        show yP (xg xs) (D + 1) 0 351 [(3, .int i), (2, .ref 58), (1, .ref 0), (0, .retAddr 1)] [.int ((xs).getD (i + (1 : Int32)).toNatClampNeg 0), .ref 0] m _
        refine y_call rfl rfl rfl rfl rfl (Nat.le_of_ble_eq_true rfl) (Nat.le_of_ble_eq_true rfl) rfl (by decide) (o9 t hlt ((xs).getD (i + (1 : Int32)).toNatClampNeg 0) m hI) (fun v1 m1 q1 => ?_)
        obtain ⟨u, rfl, hY⟩ := q1
        refine y_st rfl rfl rfl rfl rfl (fun _ _ => rfl) ?_
        refine y_st rfl rfl rfl rfl rfl (fun _ _ => rfl) ?_
        refine y_st rfl rfl rfl rfl rfl (fun _ _ => rfl) ?_
        refine y_st rfl rfl rfl rfl rfl (fun _ _ => rfl) ?_
        refine y_st rfl rfl rfl rfl rfl (fun _ _ => rfl) ?_
        show yP (xg xs) (D + 1) 0 359 [(3, .int i), (2, .ref 58), (1, .ref 0), (0, .retAddr 1)] [.int (i + (1 : Int32)), .retAddr 1, .ref 58, .int u] m1 _
        refine y_cald rfl rfl rfl (by rw [hi]; exact law_ix hL (K := 1) (by omega)) ?_
        show yP (xg xs) (D + 1) 0 360 [(3, .int i), (2, .ref 58), (1, .ref 0), (0, .retAddr 1)] [.int ((xs).getD (i + (1 : Int32)).toNatClampNeg 0), .ref 58, .int u] m1 _
        refine y_call rfl rfl rfl rfl rfl (Nat.le_of_ble_eq_true rfl) (Nat.le_of_ble_eq_true rfl) rfl (by decide) (hY) (fun v2 m2 q2 => ?_)
        obtain ⟨rfl, hI2⟩ := q2
        show yP (xg xs) (D + 1) 0 363 [(3, .int i), (2, .ref 58), (1, .ref 0), (0, .retAddr 1)] [.int u, .int u] m2 _
        refine y_ieq (t := 368) rfl rfl rfl (fun h363 => ?_) (fun h363 => ?_)
        · refine y_st rfl rfl rfl rfl rfl (fun _ _ => rfl) ?_
          refine y_st rfl rfl rfl rfl rfl (fun _ _ => rfl) ?_
          show yP (xg xs) (D + 1) 0 18 [(3, .int (i + (6 : Int32))), (2, .ref 58), (1, .ref 0), (0, .retAddr 1)] [] m2 _
          refine y_head (l2 := [(3, .int (i + (6 : Int32))), (2, .ref 58), (1, .ref 0), (0, .retAddr 1)]) [0, 1, 2, 3] [3, 2, 1, 0] 4 rfl (by decide) rfl rfl (by decide) ?_
          exact ih (t + 1) _ _ nxt (by omega) (by omega) hI2
        · exact absurd rfl h363
      · refine y_tsw (t := 368) rfl rfl rfl ?_
        refine y_st rfl rfl rfl rfl rfl (fun _ _ => rfl) ?_
        refine y_st rfl rfl rfl rfl rfl (fun _ _ => rfl) ?_
        show yP (xg xs) (D + 1) 0 18 [(3, .int (i + (6 : Int32))), (2, .ref 58), (1, .ref 0), (0, .retAddr 1)] [] m _
        refine y_head (l2 := [(3, .int (i + (6 : Int32))), (2, .ref 58), (1, .ref 0), (0, .retAddr 1)]) [0, 1, 2, 3] [3, 2, 1, 0] 4 rfl (by decide) rfl rfl (by decide) ?_
        exact ih (t + 1) _ _ nxt (by omega) (by omega) (hkeep t m hI)
      · refine y_tsw (t := 368) rfl rfl rfl ?_
        refine y_st rfl rfl rfl rfl rfl (fun _ _ => rfl) ?_
        refine y_st rfl rfl rfl rfl rfl (fun _ _ => rfl) ?_
        show yP (xg xs) (D + 1) 0 18 [(3, .int (i + (6 : Int32))), (2, .ref 58), (1, .ref 0), (0, .retAddr 1)] [] m _
        refine y_head (l2 := [(3, .int (i + (6 : Int32))), (2, .ref 58), (1, .ref 0), (0, .retAddr 1)]) [0, 1, 2, 3] [3, 2, 1, 0] 4 rfl (by decide) rfl rfl (by decide) ?_
        exact ih (t + 1) _ _ nxt (by omega) (by omega) (hkeep t m hI)
      · refine y_tsw (t := 368) rfl rfl rfl ?_
        refine y_st rfl rfl rfl rfl rfl (fun _ _ => rfl) ?_
        refine y_st rfl rfl rfl rfl rfl (fun _ _ => rfl) ?_
        show yP (xg xs) (D + 1) 0 18 [(3, .int (i + (6 : Int32))), (2, .ref 58), (1, .ref 0), (0, .retAddr 1)] [] m _
        refine y_head (l2 := [(3, .int (i + (6 : Int32))), (2, .ref 58), (1, .ref 0), (0, .retAddr 1)]) [0, 1, 2, 3] [3, 2, 1, 0] 4 rfl (by decide) rfl rfl (by decide) ?_
        exact ih (t + 1) _ _ nxt (by omega) (by omega) (hkeep t m hI)
      · refine y_tsw (t := 368) rfl rfl rfl ?_
        refine y_st rfl rfl rfl rfl rfl (fun _ _ => rfl) ?_
        refine y_st rfl rfl rfl rfl rfl (fun _ _ => rfl) ?_
        show yP (xg xs) (D + 1) 0 18 [(3, .int (i + (6 : Int32))), (2, .ref 58), (1, .ref 0), (0, .retAddr 1)] [] m _
        refine y_head (l2 := [(3, .int (i + (6 : Int32))), (2, .ref 58), (1, .ref 0), (0, .retAddr 1)]) [0, 1, 2, 3] [3, 2, 1, 0] 4 rfl (by decide) rfl rfl (by decide) ?_
        exact ih (t + 1) _ _ nxt (by omega) (by omega) (hkeep t m hI)
      · refine y_tsw (t := 368) rfl rfl rfl ?_
        refine y_st rfl rfl rfl rfl rfl (fun _ _ => rfl) ?_
        refine y_st rfl rfl rfl rfl rfl (fun _ _ => rfl) ?_
        show yP (xg xs) (D + 1) 0 18 [(3, .int (i + (6 : Int32))), (2, .ref 58), (1, .ref 0), (0, .retAddr 1)] [] m _
        refine y_head (l2 := [(3, .int (i + (6 : Int32))), (2, .ref 58), (1, .ref 0), (0, .retAddr 1)]) [0, 1, 2, 3] [3, 2, 1, 0] 4 rfl (by decide) rfl rfl (by decide) ?_
        exact ih (t + 1) _ _ nxt (by omega) (by omega) (hkeep t m hI)
      · refine y_tsw (t := 368) rfl rfl rfl ?_
        refine y_st rfl rfl rfl rfl rfl (fun _ _ => rfl) ?_
        refine y_st rfl rfl rfl rfl rfl (fun _ _ => rfl) ?_
        show yP (xg xs) (D + 1) 0 18 [(3, .int (i + (6 : Int32))), (2, .ref 58), (1, .ref 0), (0, .retAddr 1)] [] m _
        refine y_head (l2 := [(3, .int (i + (6 : Int32))), (2, .ref 58), (1, .ref 0), (0, .retAddr 1)]) [0, 1, 2, 3] [3, 2, 1, 0] 4 rfl (by decide) rfl rfl (by decide) ?_
        exact ih (t + 1) _ _ nxt (by omega) (by omega) (hkeep t m hI)
