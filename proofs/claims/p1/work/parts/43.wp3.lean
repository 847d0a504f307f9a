/-! RULES, third part: switches, constants' elements, divisions -/
section YR3
variable {G : xG} {d y pc len : Nat} {lv : xL} {m : yM} {Q : Option Value → yM → Prop} {M : xM} {rs : List Value}
theorem y_tsw {df lo hi : Int} {offs : Array Int} {x : Int32} {t : Nat} (hc : xcd y pc = some (.tableswitch df lo hi offs, len)) (hM : xms y = some M) (h : (if x.toInt < lo ∨ hi < x.toInt then x_to pc df else (match offs[(x.toInt - lo).toNat]? with
      | some off => x_to pc off
      | none => none)) = some t) (k : yP G d y t lv rs m Q) : yP G d y pc lv (.int x :: rs) m Q := by
  refine y_st hc hM rfl rfl rfl (fun ck cs => ?_) k
  exact congrArg (x_jp lv rs (y_w m) ck cs) h
theorem y_lsw {df : Int} {ps : Array (Int × Int)} {x : Int32} {t : Nat} (hc : xcd y pc = some (.lookupswitch df ps, len)) (hM : xms y = some M) (hs : (ps.toList.zip (ps.toList.drop 1)).all (fun (a, next) => a.1 < next.1) = true) (h : x_to pc (Op.lookupswitch.offset ps.toList df x.toInt) = some t) (k : yP G d y t lv rs m Q) : yP G d y pc lv (.int x :: rs) m Q := by
  refine y_st hc hM rfl rfl rfl (fun ck cs => ?_) k
  show (if (ps.toList.zip (ps.toList.drop 1)).all (fun (a, next) => a.1 < next.1) = true then x_jp lv rs (y_w m) ck cs (x_to pc (Op.lookupswitch.offset ps.toList df x.toInt)) else none) = _
  rw [if_pos hs, h]
  rfl
theorem y_cald {k : Nat} {l : List Int32} {x : Int32} (hc : xcd y pc = some (.iaload, len)) (hM : xms y = some M) (hl : x_ca k G.1.2.1 = some (.int, l)) (hi : x_in x l.length = true) (kk : yP G d y (pc + 1) lv (.int (l.getD x.toNatClampNeg 0) :: rs) m Q) : yP G d y pc lv (.int x :: .retAddr k :: rs) m Q := by
  refine y_st hc hM rfl rfl rfl (fun ck cs => ?_) kk
  show x_st pc 1 lv (y_w m) ck cs (x_ai G 0 0 .int (y_w m) (.int x :: .retAddr k :: rs)) = _
  unfold x_ai
  dsimp only
  rw [hl]
  dsimp only
  rw [if_pos ⟨rfl, hi⟩]
  rfl
theorem y_cbald {k : Nat} {l : List Int32} {x : Int32} (hc : xcd y pc = some (.baload, len)) (hM : xms y = some M) (hl : x_ca k G.1.2.1 = some (.byte, l)) (hi : x_in x l.length = true) (kk : yP G d y (pc + 1) lv (.int (l.getD x.toNatClampNeg 0) :: rs) m Q) : yP G d y pc lv (.int x :: .retAddr k :: rs) m Q := by
  refine y_st hc hM rfl rfl rfl (fun ck cs => ?_) kk
  show x_st pc 1 lv (y_w m) ck cs (x_ai G 2 3 .byte (y_w m) (.int x :: .retAddr k :: rs)) = _
  unfold x_ai
  dsimp only
  rw [hl]
  dsimp only
  rw [if_pos ⟨rfl, hi⟩]
  rfl
theorem y_idiv {x x2 : Int32} (hc : xcd y pc = some (.idiv, len)) (hM : xms y = some M) (h : ¬ x2 = 0) (kk : yP G d y (pc + 1) lv (.int (x / x2) :: rs) m Q) : yP G d y pc lv (.int x2 :: .int x :: rs) m Q := by
  refine y_st hc hM rfl rfl rfl (fun ck cs => ?_) kk
  show x_st pc 1 lv (y_w m) ck cs ((if x2 = 0 then none else some (x / x2)).map fun z => Value.int z :: rs) = _
  rw [if_neg h]
  rfl
theorem y_irem {x x2 : Int32} (hc : xcd y pc = some (.irem, len)) (hM : xms y = some M) (h : ¬ x2 = 0) (kk : yP G d y (pc + 1) lv (.int (x - x / x2 * x2) :: rs) m Q) : yP G d y pc lv (.int x2 :: .int x :: rs) m Q := by
  refine y_st hc hM rfl rfl rfl (fun ck cs => ?_) kk
  show x_st pc 1 lv (y_w m) ck cs ((if x2 = 0 then none else some (x - x / x2 * x2)).map fun z => Value.int z :: rs) = _
  rw [if_neg h]
  rfl
theorem y_ldiv {x x2 : Int64} (hc : xcd y pc = some (.ldiv, len)) (hM : xms y = some M) (h : ¬ x2 = 0) (kk : yP G d y (pc + 1) lv (.long (x / x2) :: rs) m Q) : yP G d y pc lv (.long x2 :: .long x :: rs) m Q := by
  refine y_st hc hM rfl rfl rfl (fun ck cs => ?_) kk
  show x_st pc 1 lv (y_w m) ck cs ((if x2 = 0 then none else some (x / x2)).map fun z => Value.long z :: rs) = _
  rw [if_neg h]
  rfl
end YR3
