/-! THE REFERENCE'S PLACE: it changes only where a fault is told -/
/-- what must lie on the stack and not be 0, by method and place -/
def tgL : List (Nat × List (Nat × List Bool)) := [(272, [(31, [true]), (32, [false, true]), (35, [false, true])]), (275, [(2, [true]), (3, [false, true])]), (276, [(9, [true])]), (280, [(349, [true]), (350, [false, true]), (353, [false, true])]), (285, [(37, [true]), (38, [false, true]), (41, [false, true])]), (288, [(182, [true]), (183, [false, true]), (186, [false, true])]), (289, [(178, [true]), (179, [false, true]), (182, [false, true])]), (291, [(7, [true]), (8, [false, true]), (11, [false, true])]), (307, [(12, [true]), (13, [false, true]), (16, [false, true])]), (322, [(10, [true]), (11, [false, true]), (14, [false, true]), (15, [false, false, true]), (66, [true]), (67, [false, true]), (68, [false, false, true])]), (323, [(6, [true]), (7, [false, true]), (10, [false, true]), (11, [false, false, true]), (12, [false, true])]), (327, [(63, [true]), (64, [false, true]), (67, [false, true]), (70, [true]), (71, [false, true]), (74, [true]), (75, [false, true]), (76, [false, false, true]), (82, [true]), (83, [false, true]), (86, [false, true]), (89, [false, false, true]), (92, [true]), (93, [false, true]), (96, [true]), (97, [false, true]), (98, [false, false, true]), (107, [true]), (108, [false, true]), (109, [false, false, true]), (112, [true]), (113, [false, true]), (114, [false, false, true]), (117, [false, false, true]), (118, [false, false, false, true]), (119, [false, false, true]), (122, [false, true]), (124, [false, false, true]), (127, [true]), (128, [false, true]), (131, [true]), (132, [false, true]), (133, [false, false, true]), (204, [true]), (205, [false, true]), (208, [false, true]), (209, [false, false, true]), (212, [true]), (213, [false, true]), (216, [false, true]), (217, [false, false, true]), (218, [false, true]), (221, [true]), (222, [false, true]), (225, [false, true]), (226, [false, false, true]), (229, [true]), (230, [false, true]), (233, [false, true]), (234, [false, false, true]), (235, [false, true]), (236, [false, false, true]), (239, [true]), (240, [false, true]), (243, [true]), (244, [false, true]), (245, [false, false, true]), (362, [true]), (363, [false, true]), (366, [false, true]), (367, [false, false, true]), (370, [true]), (372, [false, true]), (375, [true]), (376, [false, true]), (379, [true]), (380, [false, true]), (381, [false, false, true]), (390, [true]), (391, [false, true]), (394, [false, true]), (395, [false, false, true]), (398, [true]), (399, [false, true]), (402, [false, false, true]), (403, [false, false, false, true]), (406, [false, false, false, true]), (407, [false, false, false, false, true]), (408, [false, false, false, true]), (411, [false, true]), (412, [false, false, true]), (415, [true]), (416, [false, true]), (417, [false, false, true]), (418, [false, false, false, true]), (421, [false, false, false, true]), (422, [false, false, false, false, true]), (423, [false, false, false, true]), (426, [false, true]), (427, [false, false, true]), (430, [true]), (431, [false, true]), (434, [true]), (435, [false, true]), (436, [false, false, true])]), (332, [(165, [true]), (166, [false, true]), (169, [false, true]), (170, [false, false, true]), (173, [false, false, true]), (174, [false, false, false, true]), (175, [false, false, true]), (176, [false, true]), (179, [true]), (181, [false, true]), (184, [true]), (185, [false, true]), (188, [true]), (189, [false, true]), (190, [false, false, true]), (196, [true]), (198, [false, true]), (199, [false, false, true]), (202, [true]), (204, [false, true]), (207, [true]), (209, [false, true]), (211, [false, false, true]), (214, [false, false, false, true]), (215, [false, false, true]), (216, [false, false, false, true]), (219, [false, true]), (220, [false, false, true]), (223, [false, true]), (224, [false, false, true]), (227, [true]), (228, [false, true]), (231, [true]), (232, [false, true]), (233, [false, false, true]), (297, [true]), (299, [false, true]), (300, [false, false, true]), (303, [true]), (305, [false, true]), (306, [false, false, true]), (309, [true]), (311, [false, true]), (314, [false, false, true]), (315, [false, true]), (316, [false, false, true]), (317, [false, true]), (320, [true]), (322, [false, true]), (324, [false, false, true]), (327, [false, true]), (328, [false, false, true]), (331, [false, true]), (332, [false, false, true]), (335, [true]), (337, [false, true]), (338, [false, false, true]), (341, [true]), (343, [false, true]), (346, [true]), (347, [false, true]), (350, [true]), (351, [false, true]), (352, [false, false, true]), (655, [true]), (656, [false, true]), (659, [false, true]), (660, [false, false, true]), (663, [false, false, true]), (664, [false, false, false, true]), (665, [false, false, true]), (666, [false, true]), (669, [false, false, true]), (672, [true]), (673, [false, true]), (676, [true]), (677, [false, true]), (678, [false, false, true])]), (336, [(52, [true]), (53, [false, true]), (56, [false, true]), (57, [false, false, true]), (58, [false, true]), (59, [false, false, true]), (62, [true]), (63, [false, true]), (66, [true]), (67, [false, true]), (68, [false, false, true]), (81, [true]), (82, [false, true]), (85, [false, true]), (86, [false, false, true]), (89, [false, false, true]), (90, [false, false, false, true]), (91, [false, false, true]), (92, [false, true]), (95, [true]), (96, [false, true]), (99, [true]), (100, [false, true]), (101, [false, false, true]), (197, [true]), (199, [false, true]), (200, [false, false, true])]), (339, [(92, [true]), (93, [false, true]), (96, [false, true]), (97, [false, false, true]), (100, [true]), (101, [false, true]), (102, [false, false, true]), (105, [true]), (106, [false, true]), (109, [true]), (110, [false, true]), (113, [true]), (114, [false, true]), (115, [false, false, true])]), (340, [(73, [true]), (74, [false, true]), (77, [false, true]), (78, [false, false, true]), (81, [false, false, true]), (82, [false, false, false, true]), (83, [false, false, true]), (84, [false, true]), (85, [false, false, true]), (88, [false, false, true]), (89, [false, false, false, true]), (90, [false, false, true]), (93, [false, true]), (96, [true]), (97, [false, true]), (100, [true]), (101, [false, true]), (102, [false, false, true]), (141, [true]), (142, [false, true]), (145, [false, true]), (146, [false, false, true]), (147, [false, true]), (149, [false, false, true]), (152, [true]), (153, [false, true]), (156, [false, true]), (157, [false, false, true]), (158, [false, true]), (161, [true]), (162, [false, true]), (165, [true]), (166, [false, true]), (167, [false, false, true]), (186, [true]), (187, [false, true]), (190, [false, true]), (191, [false, false, true]), (194, [false, false, true]), (195, [false, false, false, true]), (196, [false, false, true]), (197, [false, true]), (200, [true]), (201, [false, true]), (204, [true]), (205, [false, true]), (206, [false, false, true]), (230, [true]), (231, [false, true]), (234, [false, true]), (235, [false, false, true]), (236, [false, true]), (238, [false, false, true]), (241, [true]), (242, [false, true]), (245, [false, true]), (247, [false, false, true]), (248, [false, true]), (250, [false, false, true]), (253, [true]), (254, [false, true]), (257, [false, true]), (258, [false, false, true]), (259, [false, true]), (260, [false, false, true]), (263, [false, false, true]), (265, [false, false, false, true]), (266, [false, false, true]), (269, [true]), (270, [false, true]), (273, [true]), (274, [false, true]), (275, [false, false, true]), (292, [true]), (293, [false, true]), (294, [false, false, true]), (295, [false, false, false, true]), (298, [false, true]), (301, [true]), (302, [false, true]), (305, [true]), (306, [false, true]), (307, [false, false, true])]), (341, [(3, [true]), (4, [false, true]), (7, [false, true]), (8, [false, false, true]), (9, [false, true]), (10, [false, false, true]), (13, [true]), (14, [false, true]), (17, [false, true]), (18, [false, false, true]), (19, [false, true]), (20, [false, false, true]), (23, [true]), (24, [false, true]), (27, [false, true]), (28, [false, false, true]), (29, [false, true]), (32, [false, false, true]), (33, [false, true]), (34, [false, false, true]), (35, [false, true]), (38, [true]), (39, [false, true]), (42, [true]), (43, [false, true]), (44, [false, false, true]), (50, [true]), (51, [false, true]), (52, [false, false, true]), (53, [false, false, false, true]), (56, [false, false, false, true]), (57, [false, false, false, false, true]), (58, [false, false, false, true]), (61, [false, true]), (62, [false, false, true])]), (344, [(14, [true]), (15, [false, true]), (16, [false, false, true]), (19, [true]), (20, [false, true]), (23, [true]), (24, [false, true]), (25, [false, false, true]), (38, [true]), (39, [false, true]), (42, [false, true]), (43, [false, false, true]), (44, [false, true]), (45, [false, false, true]), (48, [true]), (49, [false, true]), (52, [true]), (53, [false, true]), (54, [false, false, true])]), (345, [(184, [true]), (185, [false, true]), (186, [false, false, true]), (189, [true]), (190, [false, true]), (193, [true]), (194, [false, true]), (195, [false, false, true]), (263, [true]), (265, [false, true]), (266, [false, false, true]), (272, [true]), (273, [false, true]), (276, [false, true]), (277, [false, false, true]), (280, [false, false, true]), (281, [false, false, false, true]), (282, [false, false, true]), (283, [false, true]), (284, [false, false, true]), (287, [false, true]), (290, [true]), (291, [false, true]), (294, [true]), (295, [false, true]), (296, [false, false, true])]), (348, [(18, [true]), (19, [false, true]), (22, [false, true]), (23, [false, false, true]), (24, [false, true]), (27, [true]), (28, [false, true]), (31, [true]), (32, [false, true]), (33, [false, false, true]), (172, [true]), (173, [false, true]), (174, [false, false, true])]), (352, [(92, [true]), (93, [false, true]), (94, [false, false, true]), (109, [true]), (110, [false, true]), (113, [false, true]), (114, [false, false, true]), (117, [false, false, true]), (118, [false, false, false, true]), (119, [false, false, true]), (120, [false, true]), (123, [true]), (124, [false, true]), (127, [true]), (128, [false, true]), (129, [false, false, true]), (144, [true]), (145, [false, true]), (148, [false, true]), (149, [false, false, true]), (150, [false, true]), (151, [false, false, true]), (154, [true]), (155, [false, true]), (158, [true]), (159, [false, true]), (160, [false, false, true]), (166, [true]), (167, [false, true]), (170, [false, true]), (171, [false, false, true]), (174, [false, false, true]), (175, [false, false, false, true]), (176, [false, false, true]), (177, [false, true]), (180, [true]), (181, [false, true]), (184, [true]), (185, [false, true]), (186, [false, false, true]), (217, [true]), (218, [false, true]), (221, [false, true]), (222, [false, false, true]), (225, [false, false, true]), (226, [false, false, false, true]), (227, [false, false, true]), (228, [false, true]), (229, [false, false, true]), (232, [true]), (233, [false, true]), (236, [true]), (237, [false, true]), (238, [false, false, true])]), (354, [(117, [true]), (118, [false, true]), (121, [false, true]), (122, [false, false, true]), (125, [false, false, true]), (126, [false, false, false, true]), (127, [false, false, true]), (128, [false, true]), (131, [true]), (132, [false, true]), (135, [true]), (136, [false, true]), (137, [false, false, true]), (211, [true]), (212, [false, true]), (215, [false, true]), (216, [false, false, true]), (217, [false, true]), (220, [true]), (221, [false, true]), (224, [false, true]), (225, [false, false, true]), (226, [false, true]), (229, [true]), (230, [false, true]), (233, [true]), (234, [false, true]), (235, [false, false, true])]), (356, [(157, [true]), (159, [false, true]), (160, [false, false, true]), (163, [true]), (164, [false, true]), (167, [true]), (168, [false, true]), (169, [false, false, true])]), (357, [(9, [true]), (10, [false, true]), (11, [false, false, true]), (14, [true]), (15, [false, true]), (18, [true]), (19, [false, true]), (20, [false, false, true]), (88, [true]), (89, [false, true]), (92, [false, true]), (93, [false, false, true]), (94, [false, true]), (95, [false, false, true]), (98, [true]), (99, [false, true]), (102, [true]), (103, [false, true]), (104, [false, false, true]), (218, [true]), (220, [false, true]), (223, [true]), (224, [false, true]), (227, [true]), (228, [false, true]), (229, [false, false, true]), (403, [true]), (404, [false, true]), (405, [false, false, true]), (408, [true]), (409, [false, true]), (412, [false, true]), (414, [false, false, true]), (415, [false, true]), (418, [true]), (420, [false, true]), (423, [true]), (424, [false, true]), (427, [true]), (428, [false, true]), (431, [true]), (432, [false, true]), (434, [false, false, true]), (437, [true]), (438, [false, true]), (440, [false, false, true]), (443, [true]), (445, [false, true]), (448, [true]), (449, [false, true]), (452, [true]), (453, [false, true]), (456, [true]), (457, [false, true]), (458, [false, false, true])]), (364, [(75, [true]), (77, [false, true]), (78, [false, false, true]), (81, [true]), (83, [false, true]), (86, [true]), (88, [false, true]), (91, [true]), (92, [false, true]), (95, [true]), (96, [false, true]), (99, [true]), (101, [false, true]), (104, [true]), (105, [false, true]), (108, [true]), (109, [false, true]), (110, [false, false, true])]), (367, [(3, [true]), (4, [false, true]), (7, [false, true]), (9, [false, false, true]), (12, [true]), (13, [false, true]), (16, [true]), (17, [false, true]), (18, [false, false, true]), (69, [true]), (70, [false, true]), (73, [false, true]), (74, [false, false, true])]), (387, [(3, [true]), (4, [false, true]), (5, [false, false, true]), (8, [false, true]), (10, [false, false, true]), (13, [true]), (14, [false, true]), (17, [true]), (18, [false, true]), (19, [false, false, true]), (22, [false, false, true]), (23, [false, false, false, true]), (24, [false, false, true]), (68, [true]), (69, [false, true]), (72, [false, true]), (73, [false, false, true]), (74, [false, true]), (77, [false, false, true]), (78, [false, true]), (81, [true]), (82, [false, true]), (85, [true]), (86, [false, true]), (87, [false, false, true]), (90, [false, false, true]), (91, [false, false, false, true]), (92, [false, false, true])])]
def tg2 (pc : Nat) : List (Nat × List Bool) → List Bool
  | [] => []
  | q :: l => bif Nat.beq q.1 pc then q.2 else tg2 pc l
def tg1 (y pc : Nat) : List (Nat × List (Nat × List Bool)) → List Bool
  | [] => []
  | q :: l => bif Nat.beq q.1 y then tg2 pc q.2 else tg1 y pc l
def tg (y pc : Nat) : List Bool := tg1 y pc tgL
def f3 (j : Nat) : Bool := Nat.beq j 275 || Nat.beq j 276 || Nat.beq j 323
def inS (y : Nat) : Bool := (Nat.ble 22 y && Nat.ble y 32) || (Nat.ble 270 y && Nat.ble y 392)
def fl (y pc : Nat) : Bool := Nat.beq y 276 && (Nat.ble 12 pc && Nat.ble pc 14)
def anM (j : Nat) : Nat := (xq j).2.2.2.2.2.2
def rtM (j : Nat) : Bool := (xq j).2.2.2.2.2.1.isSome
def leT : List Bool → List Bool → Bool
  | [], _ => true
  | x :: a, [] => !x && leT a []
  | x :: a, y :: b => (!x || y) && leT a b
theorem leT_at : ∀ {a b : List Bool}, leT a b = true → ∀ k : Nat, a[k]? = some true → b[k]? = some true
  | [], _, _, k, h => by simp at h
  | x :: a, [], h, k, e => by
    unfold leT at h
    rw [Bool.and_eq_true] at h
    cases k with
    | zero =>
      have e : x = true := by simpa using e
      rw [e] at h
      exact absurd h.1 Bool.false_ne_true
    | succ k =>
      have := leT_at h.2 k (by simpa using e)
      simp at this
  | x :: a, y :: b, h, k, e => by
    unfold leT at h
    rw [Bool.and_eq_true] at h
    cases k with
    | zero =>
      have e : x = true := by simpa using e
      rw [e] at h
      have : y = true := by simpa using h.1
      simp [this]
    | succ k =>
      have := leT_at h.2 k (by simpa using e)
      simpa using this
def onT (y pc t : Nat) (ts : List Bool) : Bool := leT (tg y t) ts && (!(fl y t) || fl y pc)
def toT (y pc : Nat) (off : Int) (ts : List Bool) : Bool := match x_to pc off with
  | some t => onT y pc t ts
  | none => true
/-- taken, laid (not 0), bytes -/
def efI (nz : Bool) (len : Nat) : Instr → Option (Nat × List Bool × Nat)
  | .iconst n => some (0, [decide (¬ Int32.ofInt n = 0)], 1)
  | .bipush n => some (0, [decide (¬ (Int8.ofInt n).toInt32 = 0)], 2)
  | .sipush n => some (0, [decide (¬ (Int16.ofInt n).toInt32 = 0)], 3)
  | .lconst _ => some (0, [false], 1)
  | .jsr _ => some (0, [false], len)
  | .jsr_w _ => some (0, [false], 3)
  | .ldc _ => some (0, [false], len)
  | .iload k => some (0, [nz && Nat.beq k 1], 2)
  | .iload_n k => some (0, [nz && Nat.beq k 1], 1)
  | .lload _ => some (0, [false], 2)
  | .lload_n _ => some (0, [false], 1)
  | .aload _ => some (0, [false], 2)
  | .aload_n _ => some (0, [false], 1)
  | .istore _ => bif nz then none else some (1, [], 2)
  | .istore_n _ => bif nz then none else some (1, [], 1)
  | .lstore _ => bif nz then none else some (1, [], 2)
  | .lstore_n _ => bif nz then none else some (1, [], 1)
  | .astore _ => bif nz then none else some (1, [], 2)
  | .iinc _ _ => bif nz then none else some (0, [], 3)
  | .iadd => some (2, [false], 1)
  | .isub => some (2, [false], 1)
  | .imul => some (2, [false], 1)
  | .iand => some (2, [false], 1)
  | .ior => some (2, [false], 1)
  | .ixor => some (2, [false], 1)
  | .idiv => some (2, [false], 1)
  | .irem => some (2, [false], 1)
  | .ishl => some (2, [false], 1)
  | .ishr => some (2, [false], 1)
  | .iushr => some (2, [false], 1)
  | .ineg => some (1, [false], 1)
  | .i2l => some (1, [false], 1)
  | .i2b => some (1, [false], 1)
  | .i2c => some (1, [false], 1)
  | .l2i => some (1, [false], 1)
  | .lneg => some (1, [false], 1)
  | .ladd => some (2, [false], 1)
  | .lsub => some (2, [false], 1)
  | .lmul => some (2, [false], 1)
  | .ldiv => some (2, [false], 1)
  | .lcmp => some (2, [false], 1)
  | .dup => some (1, [false, false], 1)
  | .pop => some (1, [], 1)
  | .dup2 => some (2, [false, false, false, false], 1)
  | .iaload => some (2, [false], 1)
  | .baload => some (2, [false], 1)
  | .laload => some (2, [false], 1)
  | .arraylength => some (1, [false], 1)
  | .iastore => some (3, [], 1)
  | .bastore => some (3, [], 1)
  | .lastore => some (3, [], 1)
  | .getfield _ => some (1, [false], 3)
  | .instanceof _ => some (1, [false], 3)
  | .getstatic _ => some (0, [false], 3)
  | _ => none
def noT (y : Nat) : Bool := tgL.all (fun q => !(Nat.beq q.1 y)) && !(Nat.beq y 276)
theorem noT_tg {y : Nat} (h : noT y = true) (t : Nat) : tg y t = [] ∧ fl y t = false := by
  unfold noT at h
  rw [Bool.and_eq_true] at h
  have h2 : Nat.beq y 276 = false := by simpa using h.2
  refine ⟨?_, by unfold fl; rw [h2]; rfl⟩
  have go : ∀ l : List (Nat × List (Nat × List Bool)), l.all (fun q => !(Nat.beq q.1 y)) = true → tg1 y t l = [] := by
    intro l
    induction l with
    | nil => intro _; rfl
    | cons q l ih =>
      intro e
      rw [List.all_cons, Bool.and_eq_true] at e
      have e1 : Nat.beq q.1 y = false := by simpa using e.1
      unfold tg1
      rw [e1]
      exact ih e.2
  exact go tgL h.1
def caT (y pc j : Nat) : Bool := inS j && onT y pc (pc + 3) ((bif rtM j then [false] else []) ++ (tg y pc).drop (anM j)) && !(fl y (pc + 3))
def ckI (y pc : Nat) (i : Instr) (len : Nat) : Bool := match i with
  | .goto off => toT y pc off (tg y pc)
  | .ifCond _ off => toT y pc off ((tg y pc).drop 1) && onT y pc (pc + 3) ((tg y pc).drop 1)
  | .if_icmp _ off => toT y pc off ((tg y pc).drop 2) && onT y pc (pc + 3) ((tg y pc).drop 2)
  | .tableswitch d _ _ offs => toT y pc d [] && offs.toList.all (fun o => toT y pc o [])
  | .lookupswitch _ _ => noT y
  | .invokestatic j => caT y pc j && !(f3 j)
  | .invokevirtual j => caT y pc j && (!(f3 j) || (Nat.ble 2 (anM j) && ((tg y pc)[anM j - 2]? == some true)))
  | .return_ => true
  | .ireturn => true
  | .lreturn => true
  | .areturn => true
  | .putfield k => bif Nat.beq k 1203 then ((tg y pc)[0]? == some true) && leT (tg y (pc + 3)) ((tg y pc).drop 2) else bif Nat.beq k 1204 then fl y pc && onT y pc (pc + 3) ((tg y pc).drop 2) else onT y pc (pc + 3) ((tg y pc).drop 2)
  | _ => match efI (f3 y) len i with
    | some (p, ts, n) => onT y pc (pc + n) (ts ++ (tg y pc).drop p)
    | none => false
theorem cd4a : ∀ y, y < 393 → inS y = true → (xr y).all (fun l => l.all (fun e => ckI y e.1 e.2.1 e.2.2)) = true := by decide +kernel
theorem tg_0 : ∀ y, y < 393 → tg y 0 = [] := by decide +kernel
