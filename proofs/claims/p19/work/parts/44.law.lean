/-! the law's loop -/
abbrev PL (L : Nat) (xs : Nat → Int32) (pc : Nat) (lv : Lv) (st : List Value) (σ : St) : Prop := PW (some (L, xs)) 194 pc lv st σ (fun r _ => r = some (.int 1))
theorem PW.xald {L : Nat} {xs : Nat → Int32} {y pc ln : Nat} {i : Int32} {lv : Lv} {r : List Value} {σ : St} {Q : Option Value → St → Prop} (hi : ins y pc = some (.iaload, ln)) (hin : inN i L = true) (h : PW (some (L, xs)) y (pc + 1) lv (.int (xs i.toNatClampNeg) :: r) σ Q) : PW (some (L, xs)) y pc lv (.int i :: .ref 1000 :: r) σ Q := by
  refine PW.step (q := (pc + 1, lv, .int (xs i.toNatClampNeg) :: r, σ)) hi rfl ?_ h
  simp only [stp, p1, pr]
  rw [if_pos True.intro, if_pos hin]
theorem hw_194 : pins.getD 194 [] = pi_194 := rfl
def subL (l : List (Nat × Instr × Nat)) : Bool := l.all (fun e => decide (pk pi_194 e.1 = some e.2))
theorem sub_pk : ∀ {l : List (Nat × Instr × Nat)} {pc : Nat} {q : Instr × Nat}, subL l = true → pk l pc = some q → ins 194 pc = some q
  | [], pc, q, _, h => by cases h
  | e :: t, pc, q, hs, h => by
    unfold subL at hs
    rw [List.all_cons, Bool.and_eq_true] at hs
    unfold pk at h
    cases hb : Nat.beq e.1 pc with
    | true =>
      rw [hb, cond_true] at h
      have e1 := Nat.eq_of_beq_eq_true hb
      have e2 := of_decide_eq_true hs.1
      unfold ins
      rw [hw_194, ← e1, e2, ← h]
    | false =>
      rw [hb, cond_false] at h
      exact sub_pk hs.2 h
theorem ins_s {l : List (Nat × Instr × Nat)} {pc : Nat} {q : Instr × Nat} (hs : subL l = true) (h : pk l pc = some q) : ins 194 pc = some q := sub_pk hs h
theorem PW.runsS {X : Scr} {l : List (Nat × Instr × Nat)} {oc : Nat} (hs : subL l = true) (ho : mOC 194 = oc) {Q : Option Value → St → Prop} : ∀ (k : Nat) {q q' : Rs}, runsL X oc l k q = some q' → PW X 194 q'.1 q'.2.1 q'.2.2.1 q'.2.2.2 Q → PW X 194 q.1 q.2.1 q.2.2.1 q.2.2.2 Q := by
  intro k
  induction k with
  | zero => intro q q' h hp; cases h; exact hp
  | succ k ih =>
    intro q q' h hp
    unfold runsL at h
    split at h
    · rename_i i ln hi
      cases hb : isSt i with
      | false => rw [hb, cond_false] at h; cases h
      | true =>
        rw [hb, cond_true] at h
        split at h
        · rename_i q1 hq1
          rw [← ho] at hq1
          exact PW.step (ins_s hs hi) hb hq1 (ih h hp)
        · cases h
    · cases h
def ll_0 : List (Nat × Instr × Nat) := [(18, .iload_n 3, 1), (19, .aload_n 0, 1), (20, .arraylength, 1), (21, .iconst 5, 1), (22, .isub, 1), (23, .if_icmp .gt 1023, 3), (26, .aload_n 0, 1), (27, .iload_n 3, 1), (28, .iaload, 1), (29, .bipush 31, 2), (31, .iand, 1), (32, .tableswitch 1008 0 29 #[136, 159, 172, 185, 208, 241, 274, 333, 382, 415, 438, 471, 514, 537, 560, 573, 626, 659, 692, 725, 758, 781, 814, 847, 880, 913, 926, 939, 962, 985], 136), (1040, .iinc 3 5, 3), (1043, .goto (-1025), 3), (1046, .iconst 1, 1), (1047, .ireturn, 1)]
theorem hs_0 : subL ll_0 = true := by decide +kernel
def ll_1 : List (Nat × Instr × Nat) := [(18, .iload_n 3, 1), (168, .aload_n 1, 1), (169, .aload_n 0, 1), (170, .iload_n 3, 1), (171, .iconst 1, 1), (172, .iadd, 1), (173, .iaload, 1), (174, .invokevirtual 13, 3), (177, .pop, 1), (178, .aload_n 2, 1), (179, .aload_n 0, 1), (180, .iload_n 3, 1), (181, .iconst 1, 1), (182, .iadd, 1), (183, .iaload, 1), (184, .invokevirtual 17, 3), (187, .pop, 1), (188, .goto 852, 3), (1040, .iinc 3 5, 3), (1043, .goto (-1025), 3)]
theorem hs_1 : subL ll_1 = true := by decide +kernel
def ll_2 : List (Nat × Instr × Nat) := [(18, .iload_n 3, 1), (191, .aload_n 1, 1), (192, .invokevirtual 18, 3), (195, .pop, 1), (196, .aload_n 2, 1), (197, .invokevirtual 22, 3), (200, .pop, 1), (201, .goto 839, 3), (1040, .iinc 3 5, 3), (1043, .goto (-1025), 3)]
theorem hs_2 : subL ll_2 = true := by decide +kernel
def ll_3 : List (Nat × Instr × Nat) := [(18, .iload_n 3, 1), (204, .aload_n 1, 1), (205, .invokevirtual 23, 3), (208, .pop, 1), (209, .aload_n 2, 1), (210, .invokevirtual 26, 3), (213, .pop, 1), (214, .goto 826, 3), (1040, .iinc 3 5, 3), (1043, .goto (-1025), 3)]
theorem hs_3 : subL ll_3 = true := by decide +kernel
def ll_4 : List (Nat × Instr × Nat) := [(18, .iload_n 3, 1), (217, .aload_n 1, 1), (218, .aload_n 0, 1), (219, .iload_n 3, 1), (220, .iconst 1, 1), (221, .iadd, 1), (222, .iaload, 1), (223, .invokevirtual 27, 3), (226, .pop, 1), (227, .aload_n 2, 1), (228, .aload_n 0, 1), (229, .iload_n 3, 1), (230, .iconst 1, 1), (231, .iadd, 1), (232, .iaload, 1), (233, .invokevirtual 30, 3), (236, .pop, 1), (237, .goto 803, 3), (1040, .iinc 3 5, 3), (1043, .goto (-1025), 3)]
theorem hs_4 : subL ll_4 = true := by decide +kernel
def ll_5 : List (Nat × Instr × Nat) := [(18, .iload_n 3, 1), (240, .aload_n 1, 1), (241, .aload_n 0, 1), (242, .iload_n 3, 1), (243, .iconst 1, 1), (244, .iadd, 1), (245, .iaload, 1), (246, .aload_n 0, 1), (247, .iload_n 3, 1), (248, .iconst 2, 1), (249, .iadd, 1), (250, .iaload, 1), (251, .invokevirtual 31, 3), (254, .pop, 1), (255, .aload_n 2, 1), (256, .aload_n 0, 1), (257, .iload_n 3, 1), (258, .iconst 1, 1), (259, .iadd, 1), (260, .iaload, 1), (261, .aload_n 0, 1), (262, .iload_n 3, 1), (263, .iconst 2, 1), (264, .iadd, 1), (265, .iaload, 1), (266, .invokevirtual 35, 3), (269, .pop, 1), (270, .goto 770, 3), (1040, .iinc 3 5, 3), (1043, .goto (-1025), 3)]
theorem hs_5 : subL ll_5 = true := by decide +kernel
def ll_6 : List (Nat × Instr × Nat) := [(18, .iload_n 3, 1), (273, .aload_n 1, 1), (274, .aload_n 0, 1), (275, .iload_n 3, 1), (276, .iconst 1, 1), (277, .iadd, 1), (278, .iaload, 1), (279, .aload_n 0, 1), (280, .iload_n 3, 1), (281, .iconst 2, 1), (282, .iadd, 1), (283, .iaload, 1), (284, .invokevirtual 36, 3), (287, .pop, 1), (288, .aload_n 2, 1), (289, .aload_n 0, 1), (290, .iload_n 3, 1), (291, .iconst 1, 1), (292, .iadd, 1), (293, .iaload, 1), (294, .aload_n 0, 1), (295, .iload_n 3, 1), (296, .iconst 2, 1), (297, .iadd, 1), (298, .iaload, 1), (299, .invokevirtual 39, 3), (302, .pop, 1), (303, .goto 737, 3), (1040, .iinc 3 5, 3), (1043, .goto (-1025), 3)]
theorem hs_6 : subL ll_6 = true := by decide +kernel
def ll_7 : List (Nat × Instr × Nat) := [(18, .iload_n 3, 1), (306, .aload_n 1, 1), (307, .aload_n 0, 1), (308, .iload_n 3, 1), (309, .iconst 1, 1), (310, .iadd, 1), (311, .iaload, 1), (312, .aload_n 0, 1), (313, .iload_n 3, 1), (314, .iconst 2, 1), (315, .iadd, 1), (316, .iaload, 1), (317, .aload_n 0, 1), (318, .iload_n 3, 1), (319, .iconst 3, 1), (320, .iadd, 1), (321, .iaload, 1), (322, .ifCond .eq 7, 3), (325, .iconst 1, 1), (326, .goto 4, 3), (329, .iconst 0, 1), (330, .invokevirtual 40, 3), (333, .pop, 1), (334, .aload_n 2, 1), (335, .aload_n 0, 1), (336, .iload_n 3, 1), (337, .iconst 1, 1), (338, .iadd, 1), (339, .iaload, 1), (340, .aload_n 0, 1), (341, .iload_n 3, 1), (342, .iconst 2, 1), (343, .iadd, 1), (344, .iaload, 1), (345, .aload_n 0, 1), (346, .iload_n 3, 1), (347, .iconst 3, 1), (348, .iadd, 1), (349, .iaload, 1), (350, .ifCond .eq 7, 3), (353, .iconst 1, 1), (354, .goto 4, 3), (357, .iconst 0, 1), (358, .invokevirtual 44, 3), (361, .pop, 1), (362, .goto 678, 3), (1040, .iinc 3 5, 3), (1043, .goto (-1025), 3)]
theorem hs_7 : subL ll_7 = true := by decide +kernel
def ll_8 : List (Nat × Instr × Nat) := [(18, .iload_n 3, 1), (365, .aload_n 1, 1), (366, .aload_n 0, 1), (367, .iload_n 3, 1), (368, .iconst 1, 1), (369, .iadd, 1), (370, .iaload, 1), (371, .aload_n 0, 1), (372, .iload_n 3, 1), (373, .iconst 2, 1), (374, .iadd, 1), (375, .iaload, 1), (376, .ifCond .eq 7, 3), (379, .iconst 1, 1), (380, .goto 4, 3), (383, .iconst 0, 1), (384, .invokevirtual 45, 3), (387, .pop, 1), (388, .aload_n 2, 1), (389, .aload_n 0, 1), (390, .iload_n 3, 1), (391, .iconst 1, 1), (392, .iadd, 1), (393, .iaload, 1), (394, .aload_n 0, 1), (395, .iload_n 3, 1), (396, .iconst 2, 1), (397, .iadd, 1), (398, .iaload, 1), (399, .ifCond .eq 7, 3), (402, .iconst 1, 1), (403, .goto 4, 3), (406, .iconst 0, 1), (407, .invokevirtual 49, 3), (410, .pop, 1), (411, .goto 629, 3), (1040, .iinc 3 5, 3), (1043, .goto (-1025), 3)]
theorem hs_8 : subL ll_8 = true := by decide +kernel
def ll_9 : List (Nat × Instr × Nat) := [(18, .iload_n 3, 1), (414, .aload_n 1, 1), (415, .aload_n 0, 1), (416, .iload_n 3, 1), (417, .iconst 1, 1), (418, .iadd, 1), (419, .iaload, 1), (420, .aload_n 0, 1), (421, .iload_n 3, 1), (422, .iconst 2, 1), (423, .iadd, 1), (424, .iaload, 1), (425, .invokevirtual 50, 3), (428, .pop, 1), (429, .aload_n 2, 1), (430, .aload_n 0, 1), (431, .iload_n 3, 1), (432, .iconst 1, 1), (433, .iadd, 1), (434, .iaload, 1), (435, .aload_n 0, 1), (436, .iload_n 3, 1), (437, .iconst 2, 1), (438, .iadd, 1), (439, .iaload, 1), (440, .invokevirtual 53, 3), (443, .pop, 1), (444, .goto 596, 3), (1040, .iinc 3 5, 3), (1043, .goto (-1025), 3)]
theorem hs_9 : subL ll_9 = true := by decide +kernel
def ll_10 : List (Nat × Instr × Nat) := [(18, .iload_n 3, 1), (447, .aload_n 1, 1), (448, .aload_n 0, 1), (449, .iload_n 3, 1), (450, .iconst 1, 1), (451, .iadd, 1), (452, .iaload, 1), (453, .invokevirtual 54, 3), (456, .pop, 1), (457, .aload_n 2, 1), (458, .aload_n 0, 1), (459, .iload_n 3, 1), (460, .iconst 1, 1), (461, .iadd, 1), (462, .iaload, 1), (463, .invokevirtual 57, 3), (466, .pop, 1), (467, .goto 573, 3), (1040, .iinc 3 5, 3), (1043, .goto (-1025), 3)]
theorem hs_10 : subL ll_10 = true := by decide +kernel
def ll_11 : List (Nat × Instr × Nat) := [(18, .iload_n 3, 1), (470, .aload_n 1, 1), (471, .aload_n 0, 1), (472, .iload_n 3, 1), (473, .iconst 1, 1), (474, .iadd, 1), (475, .iaload, 1), (476, .aload_n 0, 1), (477, .iload_n 3, 1), (478, .iconst 2, 1), (479, .iadd, 1), (480, .iaload, 1), (481, .invokevirtual 58, 3), (484, .pop, 1), (485, .aload_n 2, 1), (486, .aload_n 0, 1), (487, .iload_n 3, 1), (488, .iconst 1, 1), (489, .iadd, 1), (490, .iaload, 1), (491, .aload_n 0, 1), (492, .iload_n 3, 1), (493, .iconst 2, 1), (494, .iadd, 1), (495, .iaload, 1), (496, .invokevirtual 61, 3), (499, .pop, 1), (500, .goto 540, 3), (1040, .iinc 3 5, 3), (1043, .goto (-1025), 3)]
theorem hs_11 : subL ll_11 = true := by decide +kernel
def ll_12 : List (Nat × Instr × Nat) := [(18, .iload_n 3, 1), (503, .aload_n 1, 1), (504, .aload_n 0, 1), (505, .iload_n 3, 1), (506, .iconst 1, 1), (507, .iadd, 1), (508, .iaload, 1), (509, .aload_n 0, 1), (510, .iload_n 3, 1), (511, .iconst 2, 1), (512, .iadd, 1), (513, .iaload, 1), (514, .aload_n 0, 1), (515, .iload_n 3, 1), (516, .iconst 3, 1), (517, .iadd, 1), (518, .iaload, 1), (519, .invokevirtual 62, 3), (522, .pop, 1), (523, .aload_n 2, 1), (524, .aload_n 0, 1), (525, .iload_n 3, 1), (526, .iconst 1, 1), (527, .iadd, 1), (528, .iaload, 1), (529, .aload_n 0, 1), (530, .iload_n 3, 1), (531, .iconst 2, 1), (532, .iadd, 1), (533, .iaload, 1), (534, .aload_n 0, 1), (535, .iload_n 3, 1), (536, .iconst 3, 1), (537, .iadd, 1), (538, .iaload, 1), (539, .invokevirtual 66, 3), (542, .pop, 1), (543, .goto 497, 3), (1040, .iinc 3 5, 3), (1043, .goto (-1025), 3)]
theorem hs_12 : subL ll_12 = true := by decide +kernel
def ll_13 : List (Nat × Instr × Nat) := [(18, .iload_n 3, 1), (546, .aload_n 1, 1), (547, .aload_n 0, 1), (548, .iload_n 3, 1), (549, .iconst 1, 1), (550, .iadd, 1), (551, .iaload, 1), (552, .invokevirtual 67, 3), (555, .pop, 1), (556, .aload_n 2, 1), (557, .aload_n 0, 1), (558, .iload_n 3, 1), (559, .iconst 1, 1), (560, .iadd, 1), (561, .iaload, 1), (562, .invokevirtual 70, 3), (565, .pop, 1), (566, .goto 474, 3), (1040, .iinc 3 5, 3), (1043, .goto (-1025), 3)]
theorem hs_13 : subL ll_13 = true := by decide +kernel
def ll_14 : List (Nat × Instr × Nat) := [(18, .iload_n 3, 1), (569, .aload_n 1, 1), (570, .aload_n 0, 1), (571, .iload_n 3, 1), (572, .iconst 1, 1), (573, .iadd, 1), (574, .iaload, 1), (575, .invokevirtual 71, 3), (578, .pop, 1), (579, .aload_n 2, 1), (580, .aload_n 0, 1), (581, .iload_n 3, 1), (582, .iconst 1, 1), (583, .iadd, 1), (584, .iaload, 1), (585, .invokevirtual 74, 3), (588, .pop, 1), (589, .goto 451, 3), (1040, .iinc 3 5, 3), (1043, .goto (-1025), 3)]
theorem hs_14 : subL ll_14 = true := by decide +kernel
def ll_15 : List (Nat × Instr × Nat) := [(18, .iload_n 3, 1), (592, .aload_n 1, 1), (593, .invokevirtual 75, 3), (596, .pop, 1), (597, .aload_n 2, 1), (598, .invokevirtual 78, 3), (601, .pop, 1), (602, .goto 438, 3), (1040, .iinc 3 5, 3), (1043, .goto (-1025), 3)]
theorem hs_15 : subL ll_15 = true := by decide +kernel
def ll_16 : List (Nat × Instr × Nat) := [(18, .iload_n 3, 1), (605, .aload_n 1, 1), (606, .aload_n 0, 1), (607, .iload_n 3, 1), (608, .iconst 1, 1), (609, .iadd, 1), (610, .iaload, 1), (611, .aload_n 0, 1), (612, .iload_n 3, 1), (613, .iconst 2, 1), (614, .iadd, 1), (615, .iaload, 1), (616, .aload_n 0, 1), (617, .iload_n 3, 1), (618, .iconst 3, 1), (619, .iadd, 1), (620, .iaload, 1), (621, .aload_n 0, 1), (622, .iload_n 3, 1), (623, .iconst 4, 1), (624, .iadd, 1), (625, .iaload, 1), (626, .invokevirtual 79, 3), (629, .pop, 1), (630, .aload_n 2, 1), (631, .aload_n 0, 1), (632, .iload_n 3, 1), (633, .iconst 1, 1), (634, .iadd, 1), (635, .iaload, 1), (636, .aload_n 0, 1), (637, .iload_n 3, 1), (638, .iconst 2, 1), (639, .iadd, 1), (640, .iaload, 1), (641, .aload_n 0, 1), (642, .iload_n 3, 1), (643, .iconst 3, 1), (644, .iadd, 1), (645, .iaload, 1), (646, .aload_n 0, 1), (647, .iload_n 3, 1), (648, .iconst 4, 1), (649, .iadd, 1), (650, .iaload, 1), (651, .invokevirtual 83, 3), (654, .pop, 1), (655, .goto 385, 3), (1040, .iinc 3 5, 3), (1043, .goto (-1025), 3)]
theorem hs_16 : subL ll_16 = true := by decide +kernel
def ll_17 : List (Nat × Instr × Nat) := [(18, .iload_n 3, 1), (658, .aload_n 1, 1), (659, .aload_n 0, 1), (660, .iload_n 3, 1), (661, .iconst 1, 1), (662, .iadd, 1), (663, .iaload, 1), (664, .aload_n 0, 1), (665, .iload_n 3, 1), (666, .iconst 2, 1), (667, .iadd, 1), (668, .iaload, 1), (669, .invokevirtual 84, 3), (672, .pop, 1), (673, .aload_n 2, 1), (674, .aload_n 0, 1), (675, .iload_n 3, 1), (676, .iconst 1, 1), (677, .iadd, 1), (678, .iaload, 1), (679, .aload_n 0, 1), (680, .iload_n 3, 1), (681, .iconst 2, 1), (682, .iadd, 1), (683, .iaload, 1), (684, .invokevirtual 87, 3), (687, .pop, 1), (688, .goto 352, 3), (1040, .iinc 3 5, 3), (1043, .goto (-1025), 3)]
theorem hs_17 : subL ll_17 = true := by decide +kernel
def ll_18 : List (Nat × Instr × Nat) := [(18, .iload_n 3, 1), (691, .aload_n 1, 1), (692, .aload_n 0, 1), (693, .iload_n 3, 1), (694, .iconst 1, 1), (695, .iadd, 1), (696, .iaload, 1), (697, .aload_n 0, 1), (698, .iload_n 3, 1), (699, .iconst 2, 1), (700, .iadd, 1), (701, .iaload, 1), (702, .invokevirtual 88, 3), (705, .aload_n 2, 1), (706, .aload_n 0, 1), (707, .iload_n 3, 1), (708, .iconst 1, 1), (709, .iadd, 1), (710, .iaload, 1), (711, .aload_n 0, 1), (712, .iload_n 3, 1), (713, .iconst 2, 1), (714, .iadd, 1), (715, .iaload, 1), (716, .invokevirtual 91, 3), (719, .if_icmp .eq 321, 3), (722, .iconst 0, 1), (723, .ireturn, 1), (1040, .iinc 3 5, 3), (1043, .goto (-1025), 3)]
theorem hs_18 : subL ll_18 = true := by decide +kernel
def ll_19 : List (Nat × Instr × Nat) := [(18, .iload_n 3, 1), (724, .aload_n 1, 1), (725, .aload_n 0, 1), (726, .iload_n 3, 1), (727, .iconst 1, 1), (728, .iadd, 1), (729, .iaload, 1), (730, .aload_n 0, 1), (731, .iload_n 3, 1), (732, .iconst 2, 1), (733, .iadd, 1), (734, .iaload, 1), (735, .invokevirtual 92, 3), (738, .pop, 1), (739, .aload_n 2, 1), (740, .aload_n 0, 1), (741, .iload_n 3, 1), (742, .iconst 1, 1), (743, .iadd, 1), (744, .iaload, 1), (745, .aload_n 0, 1), (746, .iload_n 3, 1), (747, .iconst 2, 1), (748, .iadd, 1), (749, .iaload, 1), (750, .invokevirtual 95, 3), (753, .pop, 1), (754, .goto 286, 3), (1040, .iinc 3 5, 3), (1043, .goto (-1025), 3)]
theorem hs_19 : subL ll_19 = true := by decide +kernel
def ll_20 : List (Nat × Instr × Nat) := [(18, .iload_n 3, 1), (757, .aload_n 1, 1), (758, .aload_n 0, 1), (759, .iload_n 3, 1), (760, .iconst 1, 1), (761, .iadd, 1), (762, .iaload, 1), (763, .aload_n 0, 1), (764, .iload_n 3, 1), (765, .iconst 2, 1), (766, .iadd, 1), (767, .iaload, 1), (768, .invokevirtual 96, 3), (771, .pop, 1), (772, .aload_n 2, 1), (773, .aload_n 0, 1), (774, .iload_n 3, 1), (775, .iconst 1, 1), (776, .iadd, 1), (777, .iaload, 1), (778, .aload_n 0, 1), (779, .iload_n 3, 1), (780, .iconst 2, 1), (781, .iadd, 1), (782, .iaload, 1), (783, .invokevirtual 99, 3), (786, .pop, 1), (787, .goto 253, 3), (1040, .iinc 3 5, 3), (1043, .goto (-1025), 3)]
theorem hs_20 : subL ll_20 = true := by decide +kernel
def ll_21 : List (Nat × Instr × Nat) := [(18, .iload_n 3, 1), (790, .aload_n 1, 1), (791, .aload_n 0, 1), (792, .iload_n 3, 1), (793, .iconst 1, 1), (794, .iadd, 1), (795, .iaload, 1), (796, .invokevirtual 100, 3), (799, .pop, 1), (800, .aload_n 2, 1), (801, .aload_n 0, 1), (802, .iload_n 3, 1), (803, .iconst 1, 1), (804, .iadd, 1), (805, .iaload, 1), (806, .invokevirtual 103, 3), (809, .pop, 1), (810, .goto 230, 3), (1040, .iinc 3 5, 3), (1043, .goto (-1025), 3)]
theorem hs_21 : subL ll_21 = true := by decide +kernel
def ll_22 : List (Nat × Instr × Nat) := [(18, .iload_n 3, 1), (813, .aload_n 1, 1), (814, .aload_n 0, 1), (815, .iload_n 3, 1), (816, .iconst 1, 1), (817, .iadd, 1), (818, .iaload, 1), (819, .aload_n 0, 1), (820, .iload_n 3, 1), (821, .iconst 2, 1), (822, .iadd, 1), (823, .iaload, 1), (824, .invokevirtual 104, 3), (827, .pop, 1), (828, .aload_n 2, 1), (829, .aload_n 0, 1), (830, .iload_n 3, 1), (831, .iconst 1, 1), (832, .iadd, 1), (833, .iaload, 1), (834, .aload_n 0, 1), (835, .iload_n 3, 1), (836, .iconst 2, 1), (837, .iadd, 1), (838, .iaload, 1), (839, .invokevirtual 107, 3), (842, .pop, 1), (843, .goto 197, 3), (1040, .iinc 3 5, 3), (1043, .goto (-1025), 3)]
theorem hs_22 : subL ll_22 = true := by decide +kernel
def ll_23 : List (Nat × Instr × Nat) := [(18, .iload_n 3, 1), (846, .aload_n 1, 1), (847, .aload_n 0, 1), (848, .iload_n 3, 1), (849, .iconst 1, 1), (850, .iadd, 1), (851, .iaload, 1), (852, .aload_n 0, 1), (853, .iload_n 3, 1), (854, .iconst 2, 1), (855, .iadd, 1), (856, .iaload, 1), (857, .invokevirtual 108, 3), (860, .pop, 1), (861, .aload_n 2, 1), (862, .aload_n 0, 1), (863, .iload_n 3, 1), (864, .iconst 1, 1), (865, .iadd, 1), (866, .iaload, 1), (867, .aload_n 0, 1), (868, .iload_n 3, 1), (869, .iconst 2, 1), (870, .iadd, 1), (871, .iaload, 1), (872, .invokevirtual 111, 3), (875, .pop, 1), (876, .goto 164, 3), (1040, .iinc 3 5, 3), (1043, .goto (-1025), 3)]
theorem hs_23 : subL ll_23 = true := by decide +kernel
def ll_24 : List (Nat × Instr × Nat) := [(18, .iload_n 3, 1), (879, .aload_n 1, 1), (880, .aload_n 0, 1), (881, .iload_n 3, 1), (882, .iconst 1, 1), (883, .iadd, 1), (884, .iaload, 1), (885, .aload_n 0, 1), (886, .iload_n 3, 1), (887, .iconst 2, 1), (888, .iadd, 1), (889, .iaload, 1), (890, .invokevirtual 112, 3), (893, .pop, 1), (894, .aload_n 2, 1), (895, .aload_n 0, 1), (896, .iload_n 3, 1), (897, .iconst 1, 1), (898, .iadd, 1), (899, .iaload, 1), (900, .aload_n 0, 1), (901, .iload_n 3, 1), (902, .iconst 2, 1), (903, .iadd, 1), (904, .iaload, 1), (905, .invokevirtual 115, 3), (908, .pop, 1), (909, .goto 131, 3), (1040, .iinc 3 5, 3), (1043, .goto (-1025), 3)]
theorem hs_24 : subL ll_24 = true := by decide +kernel
def ll_25 : List (Nat × Instr × Nat) := [(18, .iload_n 3, 1), (912, .aload_n 1, 1), (913, .aload_n 0, 1), (914, .iload_n 3, 1), (915, .iconst 1, 1), (916, .iadd, 1), (917, .iaload, 1), (918, .aload_n 0, 1), (919, .iload_n 3, 1), (920, .iconst 2, 1), (921, .iadd, 1), (922, .iaload, 1), (923, .invokevirtual 116, 3), (926, .pop, 1), (927, .aload_n 2, 1), (928, .aload_n 0, 1), (929, .iload_n 3, 1), (930, .iconst 1, 1), (931, .iadd, 1), (932, .iaload, 1), (933, .aload_n 0, 1), (934, .iload_n 3, 1), (935, .iconst 2, 1), (936, .iadd, 1), (937, .iaload, 1), (938, .invokevirtual 119, 3), (941, .pop, 1), (942, .goto 98, 3), (1040, .iinc 3 5, 3), (1043, .goto (-1025), 3)]
theorem hs_25 : subL ll_25 = true := by decide +kernel
def ll_26 : List (Nat × Instr × Nat) := [(18, .iload_n 3, 1), (945, .aload_n 1, 1), (946, .invokevirtual 120, 3), (949, .pop, 1), (950, .aload_n 2, 1), (951, .invokevirtual 123, 3), (954, .pop, 1), (955, .goto 85, 3), (1040, .iinc 3 5, 3), (1043, .goto (-1025), 3)]
theorem hs_26 : subL ll_26 = true := by decide +kernel
def ll_27 : List (Nat × Instr × Nat) := [(18, .iload_n 3, 1), (958, .aload_n 1, 1), (959, .invokevirtual 124, 3), (962, .pop, 1), (963, .aload_n 2, 1), (964, .invokevirtual 127, 3), (967, .pop, 1), (968, .goto 72, 3), (1040, .iinc 3 5, 3), (1043, .goto (-1025), 3)]
theorem hs_27 : subL ll_27 = true := by decide +kernel
def ll_28 : List (Nat × Instr × Nat) := [(18, .iload_n 3, 1), (971, .aload_n 1, 1), (972, .aload_n 0, 1), (973, .iload_n 3, 1), (974, .iconst 1, 1), (975, .iadd, 1), (976, .iaload, 1), (977, .invokevirtual 128, 3), (980, .pop, 1), (981, .aload_n 2, 1), (982, .aload_n 0, 1), (983, .iload_n 3, 1), (984, .iconst 1, 1), (985, .iadd, 1), (986, .iaload, 1), (987, .invokevirtual 131, 3), (990, .pop, 1), (991, .goto 49, 3), (1040, .iinc 3 5, 3), (1043, .goto (-1025), 3)]
theorem hs_28 : subL ll_28 = true := by decide +kernel
def ll_29 : List (Nat × Instr × Nat) := [(18, .iload_n 3, 1), (994, .aload_n 1, 1), (995, .aload_n 0, 1), (996, .iload_n 3, 1), (997, .iconst 1, 1), (998, .iadd, 1), (999, .iaload, 1), (1000, .invokevirtual 132, 3), (1003, .pop, 1), (1004, .aload_n 2, 1), (1005, .aload_n 0, 1), (1006, .iload_n 3, 1), (1007, .iconst 1, 1), (1008, .iadd, 1), (1009, .iaload, 1), (1010, .invokevirtual 135, 3), (1013, .pop, 1), (1014, .goto 26, 3), (1040, .iinc 3 5, 3), (1043, .goto (-1025), 3)]
theorem hs_29 : subL ll_29 = true := by decide +kernel
def ll_30 : List (Nat × Instr × Nat) := [(18, .iload_n 3, 1), (1017, .aload_n 1, 1), (1018, .aload_n 0, 1), (1019, .iload_n 3, 1), (1020, .iconst 1, 1), (1021, .iadd, 1), (1022, .iaload, 1), (1023, .invokevirtual 136, 3), (1026, .pop, 1), (1027, .aload_n 2, 1), (1028, .aload_n 0, 1), (1029, .iload_n 3, 1), (1030, .iconst 1, 1), (1031, .iadd, 1), (1032, .iaload, 1), (1033, .invokevirtual 139, 3), (1036, .pop, 1), (1037, .goto 3, 3), (1040, .iinc 3 5, 3), (1043, .goto (-1025), 3)]
theorem hs_30 : subL ll_30 = true := by decide +kernel
set_option maxRecDepth 20000 in
theorem w_law {L : Nat} {xs : Nat → Int32} {x3 : Int32} {σ : St} (h : (if ((Int32.ofNat L) - 5) < x3 then True else ((0 ≤ (x3).toInt ∧ (x3).toInt < (L : Int)) ∧ (if ((xs (Int32.toNatClampNeg x3)) &&& 31) = 0 then ((0 ≤ (x3 + 1).toInt ∧ (x3 + 1).toInt < (L : Int)) ∧ CI 54 [.ref 0, .int (xs (Int32.toNatClampNeg (x3 + 1)))] σ (fun v1 σ1 => CI 117 [.ref 39, .int (xs (Int32.toNatClampNeg (x3 + 1)))] σ1 (fun v2 σ2 => PL L xs 18 [some (.ref 1000), some (.ref 0), some (.ref 39), some (.int (x3 + 5))] [] σ2))) else (if ((xs (Int32.toNatClampNeg x3)) &&& 31) = 1 then CI 55 [.ref 0] σ (fun v3 σ3 => CI 132 [.ref 39] σ3 (fun v4 σ4 => PL L xs 18 [some (.ref 1000), some (.ref 0), some (.ref 39), some (.int (x3 + 5))] [] σ4)) else (if ((xs (Int32.toNatClampNeg x3)) &&& 31) = 2 then CI 56 [.ref 0] σ (fun v5 σ5 => CI 133 [.ref 39] σ5 (fun v6 σ6 => PL L xs 18 [some (.ref 1000), some (.ref 0), some (.ref 39), some (.int (x3 + 5))] [] σ6)) else (if ((xs (Int32.toNatClampNeg x3)) &&& 31) = 3 then ((0 ≤ (x3 + 1).toInt ∧ (x3 + 1).toInt < (L : Int)) ∧ CI 57 [.ref 0, .int (xs (Int32.toNatClampNeg (x3 + 1)))] σ (fun v7 σ7 => CI 149 [.ref 39, .int (xs (Int32.toNatClampNeg (x3 + 1)))] σ7 (fun v8 σ8 => PL L xs 18 [some (.ref 1000), some (.ref 0), some (.ref 39), some (.int (x3 + 5))] [] σ8))) else (if ((xs (Int32.toNatClampNeg x3)) &&& 31) = 4 then ((0 ≤ (x3 + 1).toInt ∧ (x3 + 1).toInt < (L : Int)) ∧ ((0 ≤ (x3 + 2).toInt ∧ (x3 + 2).toInt < (L : Int)) ∧ CI 58 [.ref 0, .int (xs (Int32.toNatClampNeg (x3 + 1))), .int (xs (Int32.toNatClampNeg (x3 + 2)))] σ (fun v9 σ9 => CI 151 [.ref 39, .int (xs (Int32.toNatClampNeg (x3 + 1))), .int (xs (Int32.toNatClampNeg (x3 + 2)))] σ9 (fun v10 σ10 => PL L xs 18 [some (.ref 1000), some (.ref 0), some (.ref 39), some (.int (x3 + 5))] [] σ10)))) else (if ((xs (Int32.toNatClampNeg x3)) &&& 31) = 5 then ((0 ≤ (x3 + 1).toInt ∧ (x3 + 1).toInt < (L : Int)) ∧ ((0 ≤ (x3 + 2).toInt ∧ (x3 + 2).toInt < (L : Int)) ∧ CI 59 [.ref 0, .int (xs (Int32.toNatClampNeg (x3 + 1))), .int (xs (Int32.toNatClampNeg (x3 + 2)))] σ (fun v11 σ11 => CI 152 [.ref 39, .int (xs (Int32.toNatClampNeg (x3 + 1))), .int (xs (Int32.toNatClampNeg (x3 + 2)))] σ11 (fun v12 σ12 => PL L xs 18 [some (.ref 1000), some (.ref 0), some (.ref 39), some (.int (x3 + 5))] [] σ12)))) else (if ((xs (Int32.toNatClampNeg x3)) &&& 31) = 6 then ((0 ≤ (x3 + 1).toInt ∧ (x3 + 1).toInt < (L : Int)) ∧ ((0 ≤ (x3 + 2).toInt ∧ (x3 + 2).toInt < (L : Int)) ∧ ((0 ≤ (x3 + 3).toInt ∧ (x3 + 3).toInt < (L : Int)) ∧ (if (xs (Int32.toNatClampNeg (x3 + 3))) = 0 then CI 60 [.ref 0, .int (xs (Int32.toNatClampNeg (x3 + 1))), .int (xs (Int32.toNatClampNeg (x3 + 2))), .int 0] σ (fun v13 σ13 => CI 154 [.ref 39, .int (xs (Int32.toNatClampNeg (x3 + 1))), .int (xs (Int32.toNatClampNeg (x3 + 2))), .int 0] σ13 (fun v14 σ14 => PL L xs 18 [some (.ref 1000), some (.ref 0), some (.ref 39), some (.int (x3 + 5))] [] σ14)) else CI 60 [.ref 0, .int (xs (Int32.toNatClampNeg (x3 + 1))), .int (xs (Int32.toNatClampNeg (x3 + 2))), .int 1] σ (fun v15 σ15 => CI 154 [.ref 39, .int (xs (Int32.toNatClampNeg (x3 + 1))), .int (xs (Int32.toNatClampNeg (x3 + 2))), .int 1] σ15 (fun v16 σ16 => PL L xs 18 [some (.ref 1000), some (.ref 0), some (.ref 39), some (.int (x3 + 5))] [] σ16)))))) else (if ((xs (Int32.toNatClampNeg x3)) &&& 31) = 7 then ((0 ≤ (x3 + 1).toInt ∧ (x3 + 1).toInt < (L : Int)) ∧ ((0 ≤ (x3 + 2).toInt ∧ (x3 + 2).toInt < (L : Int)) ∧ (if (xs (Int32.toNatClampNeg (x3 + 2))) = 0 then CI 61 [.ref 0, .int (xs (Int32.toNatClampNeg (x3 + 1))), .int 0] σ (fun v17 σ17 => CI 155 [.ref 39, .int (xs (Int32.toNatClampNeg (x3 + 1))), .int 0] σ17 (fun v18 σ18 => PL L xs 18 [some (.ref 1000), some (.ref 0), some (.ref 39), some (.int (x3 + 5))] [] σ18)) else CI 61 [.ref 0, .int (xs (Int32.toNatClampNeg (x3 + 1))), .int 1] σ (fun v19 σ19 => CI 155 [.ref 39, .int (xs (Int32.toNatClampNeg (x3 + 1))), .int 1] σ19 (fun v20 σ20 => PL L xs 18 [some (.ref 1000), some (.ref 0), some (.ref 39), some (.int (x3 + 5))] [] σ20))))) else (if ((xs (Int32.toNatClampNeg x3)) &&& 31) = 8 then ((0 ≤ (x3 + 1).toInt ∧ (x3 + 1).toInt < (L : Int)) ∧ ((0 ≤ (x3 + 2).toInt ∧ (x3 + 2).toInt < (L : Int)) ∧ CI 62 [.ref 0, .int (xs (Int32.toNatClampNeg (x3 + 1))), .int (xs (Int32.toNatClampNeg (x3 + 2)))] σ (fun v21 σ21 => CI 156 [.ref 39, .int (xs (Int32.toNatClampNeg (x3 + 1))), .int (xs (Int32.toNatClampNeg (x3 + 2)))] σ21 (fun v22 σ22 => PL L xs 18 [some (.ref 1000), some (.ref 0), some (.ref 39), some (.int (x3 + 5))] [] σ22)))) else (if ((xs (Int32.toNatClampNeg x3)) &&& 31) = 9 then ((0 ≤ (x3 + 1).toInt ∧ (x3 + 1).toInt < (L : Int)) ∧ CI 63 [.ref 0, .int (xs (Int32.toNatClampNeg (x3 + 1)))] σ (fun v23 σ23 => CI 157 [.ref 39, .int (xs (Int32.toNatClampNeg (x3 + 1)))] σ23 (fun v24 σ24 => PL L xs 18 [some (.ref 1000), some (.ref 0), some (.ref 39), some (.int (x3 + 5))] [] σ24))) else (if ((xs (Int32.toNatClampNeg x3)) &&& 31) = 10 then ((0 ≤ (x3 + 1).toInt ∧ (x3 + 1).toInt < (L : Int)) ∧ ((0 ≤ (x3 + 2).toInt ∧ (x3 + 2).toInt < (L : Int)) ∧ CI 64 [.ref 0, .int (xs (Int32.toNatClampNeg (x3 + 1))), .int (xs (Int32.toNatClampNeg (x3 + 2)))] σ (fun v25 σ25 => CI 160 [.ref 39, .int (xs (Int32.toNatClampNeg (x3 + 1))), .int (xs (Int32.toNatClampNeg (x3 + 2)))] σ25 (fun v26 σ26 => PL L xs 18 [some (.ref 1000), some (.ref 0), some (.ref 39), some (.int (x3 + 5))] [] σ26)))) else (if ((xs (Int32.toNatClampNeg x3)) &&& 31) = 11 then ((0 ≤ (x3 + 1).toInt ∧ (x3 + 1).toInt < (L : Int)) ∧ ((0 ≤ (x3 + 2).toInt ∧ (x3 + 2).toInt < (L : Int)) ∧ ((0 ≤ (x3 + 3).toInt ∧ (x3 + 3).toInt < (L : Int)) ∧ CI 65 [.ref 0, .int (xs (Int32.toNatClampNeg (x3 + 1))), .int (xs (Int32.toNatClampNeg (x3 + 2))), .int (xs (Int32.toNatClampNeg (x3 + 3)))] σ (fun v27 σ27 => CI 161 [.ref 39, .int (xs (Int32.toNatClampNeg (x3 + 1))), .int (xs (Int32.toNatClampNeg (x3 + 2))), .int (xs (Int32.toNatClampNeg (x3 + 3)))] σ27 (fun v28 σ28 => PL L xs 18 [some (.ref 1000), some (.ref 0), some (.ref 39), some (.int (x3 + 5))] [] σ28))))) else (if ((xs (Int32.toNatClampNeg x3)) &&& 31) = 12 then ((0 ≤ (x3 + 1).toInt ∧ (x3 + 1).toInt < (L : Int)) ∧ CI 66 [.ref 0, .int (xs (Int32.toNatClampNeg (x3 + 1)))] σ (fun v29 σ29 => CI 165 [.ref 39, .int (xs (Int32.toNatClampNeg (x3 + 1)))] σ29 (fun v30 σ30 => PL L xs 18 [some (.ref 1000), some (.ref 0), some (.ref 39), some (.int (x3 + 5))] [] σ30))) else (if ((xs (Int32.toNatClampNeg x3)) &&& 31) = 13 then ((0 ≤ (x3 + 1).toInt ∧ (x3 + 1).toInt < (L : Int)) ∧ CI 67 [.ref 0, .int (xs (Int32.toNatClampNeg (x3 + 1)))] σ (fun v31 σ31 => CI 168 [.ref 39, .int (xs (Int32.toNatClampNeg (x3 + 1)))] σ31 (fun v32 σ32 => PL L xs 18 [some (.ref 1000), some (.ref 0), some (.ref 39), some (.int (x3 + 5))] [] σ32))) else (if ((xs (Int32.toNatClampNeg x3)) &&& 31) = 14 then CI 68 [.ref 0] σ (fun v33 σ33 => CI 169 [.ref 39] σ33 (fun v34 σ34 => PL L xs 18 [some (.ref 1000), some (.ref 0), some (.ref 39), some (.int (x3 + 5))] [] σ34)) else (if ((xs (Int32.toNatClampNeg x3)) &&& 31) = 15 then ((0 ≤ (x3 + 1).toInt ∧ (x3 + 1).toInt < (L : Int)) ∧ ((0 ≤ (x3 + 2).toInt ∧ (x3 + 2).toInt < (L : Int)) ∧ ((0 ≤ (x3 + 3).toInt ∧ (x3 + 3).toInt < (L : Int)) ∧ ((0 ≤ (x3 + 4).toInt ∧ (x3 + 4).toInt < (L : Int)) ∧ CI 69 [.ref 0, .int (xs (Int32.toNatClampNeg (x3 + 1))), .int (xs (Int32.toNatClampNeg (x3 + 2))), .int (xs (Int32.toNatClampNeg (x3 + 3))), .int (xs (Int32.toNatClampNeg (x3 + 4)))] σ (fun v35 σ35 => CI 170 [.ref 39, .int (xs (Int32.toNatClampNeg (x3 + 1))), .int (xs (Int32.toNatClampNeg (x3 + 2))), .int (xs (Int32.toNatClampNeg (x3 + 3))), .int (xs (Int32.toNatClampNeg (x3 + 4)))] σ35 (fun v36 σ36 => PL L xs 18 [some (.ref 1000), some (.ref 0), some (.ref 39), some (.int (x3 + 5))] [] σ36)))))) else (if ((xs (Int32.toNatClampNeg x3)) &&& 31) = 16 then ((0 ≤ (x3 + 1).toInt ∧ (x3 + 1).toInt < (L : Int)) ∧ ((0 ≤ (x3 + 2).toInt ∧ (x3 + 2).toInt < (L : Int)) ∧ CI 70 [.ref 0, .int (xs (Int32.toNatClampNeg (x3 + 1))), .int (xs (Int32.toNatClampNeg (x3 + 2)))] σ (fun v37 σ37 => CI 172 [.ref 39, .int (xs (Int32.toNatClampNeg (x3 + 1))), .int (xs (Int32.toNatClampNeg (x3 + 2)))] σ37 (fun v38 σ38 => PL L xs 18 [some (.ref 1000), some (.ref 0), some (.ref 39), some (.int (x3 + 5))] [] σ38)))) else (if ((xs (Int32.toNatClampNeg x3)) &&& 31) = 17 then ((0 ≤ (x3 + 1).toInt ∧ (x3 + 1).toInt < (L : Int)) ∧ ((0 ≤ (x3 + 2).toInt ∧ (x3 + 2).toInt < (L : Int)) ∧ CI 71 [.ref 0, .int (xs (Int32.toNatClampNeg (x3 + 1))), .int (xs (Int32.toNatClampNeg (x3 + 2)))] σ (fun v39 σ39 => CI 177 [.ref 39, .int (xs (Int32.toNatClampNeg (x3 + 1))), .int (xs (Int32.toNatClampNeg (x3 + 2)))] σ39 (fun v40 σ40 => (if v39 = v40 then PL L xs 18 [some (.ref 1000), some (.ref 0), some (.ref 39), some (.int (x3 + 5))] [] σ40 else False))))) else (if ((xs (Int32.toNatClampNeg x3)) &&& 31) = 18 then ((0 ≤ (x3 + 1).toInt ∧ (x3 + 1).toInt < (L : Int)) ∧ ((0 ≤ (x3 + 2).toInt ∧ (x3 + 2).toInt < (L : Int)) ∧ CI 72 [.ref 0, .int (xs (Int32.toNatClampNeg (x3 + 1))), .int (xs (Int32.toNatClampNeg (x3 + 2)))] σ (fun v41 σ41 => CI 178 [.ref 39, .int (xs (Int32.toNatClampNeg (x3 + 1))), .int (xs (Int32.toNatClampNeg (x3 + 2)))] σ41 (fun v42 σ42 => PL L xs 18 [some (.ref 1000), some (.ref 0), some (.ref 39), some (.int (x3 + 5))] [] σ42)))) else (if ((xs (Int32.toNatClampNeg x3)) &&& 31) = 19 then ((0 ≤ (x3 + 1).toInt ∧ (x3 + 1).toInt < (L : Int)) ∧ ((0 ≤ (x3 + 2).toInt ∧ (x3 + 2).toInt < (L : Int)) ∧ CI 73 [.ref 0, .int (xs (Int32.toNatClampNeg (x3 + 1))), .int (xs (Int32.toNatClampNeg (x3 + 2)))] σ (fun v43 σ43 => CI 179 [.ref 39, .int (xs (Int32.toNatClampNeg (x3 + 1))), .int (xs (Int32.toNatClampNeg (x3 + 2)))] σ43 (fun v44 σ44 => PL L xs 18 [some (.ref 1000), some (.ref 0), some (.ref 39), some (.int (x3 + 5))] [] σ44)))) else (if ((xs (Int32.toNatClampNeg x3)) &&& 31) = 20 then ((0 ≤ (x3 + 1).toInt ∧ (x3 + 1).toInt < (L : Int)) ∧ CI 74 [.ref 0, .int (xs (Int32.toNatClampNeg (x3 + 1)))] σ (fun v45 σ45 => CI 180 [.ref 39, .int (xs (Int32.toNatClampNeg (x3 + 1)))] σ45 (fun v46 σ46 => PL L xs 18 [some (.ref 1000), some (.ref 0), some (.ref 39), some (.int (x3 + 5))] [] σ46))) else (if ((xs (Int32.toNatClampNeg x3)) &&& 31) = 21 then ((0 ≤ (x3 + 1).toInt ∧ (x3 + 1).toInt < (L : Int)) ∧ ((0 ≤ (x3 + 2).toInt ∧ (x3 + 2).toInt < (L : Int)) ∧ CI 75 [.ref 0, .int (xs (Int32.toNatClampNeg (x3 + 1))), .int (xs (Int32.toNatClampNeg (x3 + 2)))] σ (fun v47 σ47 => CI 182 [.ref 39, .int (xs (Int32.toNatClampNeg (x3 + 1))), .int (xs (Int32.toNatClampNeg (x3 + 2)))] σ47 (fun v48 σ48 => PL L xs 18 [some (.ref 1000), some (.ref 0), some (.ref 39), some (.int (x3 + 5))] [] σ48)))) else (if ((xs (Int32.toNatClampNeg x3)) &&& 31) = 22 then ((0 ≤ (x3 + 1).toInt ∧ (x3 + 1).toInt < (L : Int)) ∧ ((0 ≤ (x3 + 2).toInt ∧ (x3 + 2).toInt < (L : Int)) ∧ CI 76 [.ref 0, .int (xs (Int32.toNatClampNeg (x3 + 1))), .int (xs (Int32.toNatClampNeg (x3 + 2)))] σ (fun v49 σ49 => CI 183 [.ref 39, .int (xs (Int32.toNatClampNeg (x3 + 1))), .int (xs (Int32.toNatClampNeg (x3 + 2)))] σ49 (fun v50 σ50 => PL L xs 18 [some (.ref 1000), some (.ref 0), some (.ref 39), some (.int (x3 + 5))] [] σ50)))) else (if ((xs (Int32.toNatClampNeg x3)) &&& 31) = 23 then ((0 ≤ (x3 + 1).toInt ∧ (x3 + 1).toInt < (L : Int)) ∧ ((0 ≤ (x3 + 2).toInt ∧ (x3 + 2).toInt < (L : Int)) ∧ CI 77 [.ref 0, .int (xs (Int32.toNatClampNeg (x3 + 1))), .int (xs (Int32.toNatClampNeg (x3 + 2)))] σ (fun v51 σ51 => CI 184 [.ref 39, .int (xs (Int32.toNatClampNeg (x3 + 1))), .int (xs (Int32.toNatClampNeg (x3 + 2)))] σ51 (fun v52 σ52 => PL L xs 18 [some (.ref 1000), some (.ref 0), some (.ref 39), some (.int (x3 + 5))] [] σ52)))) else (if ((xs (Int32.toNatClampNeg x3)) &&& 31) = 24 then ((0 ≤ (x3 + 1).toInt ∧ (x3 + 1).toInt < (L : Int)) ∧ ((0 ≤ (x3 + 2).toInt ∧ (x3 + 2).toInt < (L : Int)) ∧ CI 78 [.ref 0, .int (xs (Int32.toNatClampNeg (x3 + 1))), .int (xs (Int32.toNatClampNeg (x3 + 2)))] σ (fun v53 σ53 => CI 185 [.ref 39, .int (xs (Int32.toNatClampNeg (x3 + 1))), .int (xs (Int32.toNatClampNeg (x3 + 2)))] σ53 (fun v54 σ54 => PL L xs 18 [some (.ref 1000), some (.ref 0), some (.ref 39), some (.int (x3 + 5))] [] σ54)))) else (if ((xs (Int32.toNatClampNeg x3)) &&& 31) = 25 then CI 79 [.ref 0] σ (fun v55 σ55 => CI 186 [.ref 39] σ55 (fun v56 σ56 => PL L xs 18 [some (.ref 1000), some (.ref 0), some (.ref 39), some (.int (x3 + 5))] [] σ56)) else (if ((xs (Int32.toNatClampNeg x3)) &&& 31) = 26 then CI 80 [.ref 0] σ (fun v57 σ57 => CI 187 [.ref 39] σ57 (fun v58 σ58 => PL L xs 18 [some (.ref 1000), some (.ref 0), some (.ref 39), some (.int (x3 + 5))] [] σ58)) else (if ((xs (Int32.toNatClampNeg x3)) &&& 31) = 27 then ((0 ≤ (x3 + 1).toInt ∧ (x3 + 1).toInt < (L : Int)) ∧ CI 81 [.ref 0, .int (xs (Int32.toNatClampNeg (x3 + 1)))] σ (fun v59 σ59 => CI 188 [.ref 39, .int (xs (Int32.toNatClampNeg (x3 + 1)))] σ59 (fun v60 σ60 => PL L xs 18 [some (.ref 1000), some (.ref 0), some (.ref 39), some (.int (x3 + 5))] [] σ60))) else (if ((xs (Int32.toNatClampNeg x3)) &&& 31) = 28 then ((0 ≤ (x3 + 1).toInt ∧ (x3 + 1).toInt < (L : Int)) ∧ CI 82 [.ref 0, .int (xs (Int32.toNatClampNeg (x3 + 1)))] σ (fun v61 σ61 => CI 189 [.ref 39, .int (xs (Int32.toNatClampNeg (x3 + 1)))] σ61 (fun v62 σ62 => PL L xs 18 [some (.ref 1000), some (.ref 0), some (.ref 39), some (.int (x3 + 5))] [] σ62))) else (if ((xs (Int32.toNatClampNeg x3)) &&& 31) = 29 then ((0 ≤ (x3 + 1).toInt ∧ (x3 + 1).toInt < (L : Int)) ∧ CI 83 [.ref 0, .int (xs (Int32.toNatClampNeg (x3 + 1)))] σ (fun v63 σ63 => CI 190 [.ref 39, .int (xs (Int32.toNatClampNeg (x3 + 1)))] σ63 (fun v64 σ64 => PL L xs 18 [some (.ref 1000), some (.ref 0), some (.ref 39), some (.int (x3 + 5))] [] σ64))) else PL L xs 18 [some (.ref 1000), some (.ref 0), some (.ref 39), some (.int (x3 + 5))] [] σ))))))))))))))))))))))))))))))))) : PL L xs 18 [some (.ref 1000), some (.ref 0), some (.ref 39), some (.int x3)] [] σ := by
  show PW (some (L, xs)) 194 18 [some (.ref 1000), some (.ref 0), some (.ref 39), some (.int x3)] [] σ _
  refine PW.runsS hs_0 rfl 5 (q := (18, [some (.ref 1000), some (.ref 0), some (.ref 39), some (.int x3)], [], σ)) (q' := (23, [some (.ref 1000), some (.ref 0), some (.ref 39), some (.int x3)], [.int ((Int32.ofNat L) - 5), .int x3], σ)) rfl ?_
  refine PW.icm (t := 1046) (ins_s hs_0 rfl) rfl (fun hc1 => ?_) (fun hc1 => ?_)
  · replace h := (if_pos (c_gtT hc1)).mp h
    refine PW.runsS hs_0 rfl 1 (q := (1046, [some (.ref 1000), some (.ref 0), some (.ref 39), some (.int x3)], [], σ)) (q' := (1047, [some (.ref 1000), some (.ref 0), some (.ref 39), some (.int x3)], [.int 1], σ)) rfl ?_
    exact PW.iret (ins_s hs_0 rfl) (Or.inr ⟨rfl, by decide⟩) rfl
  · replace h := (if_neg (c_gtF hc1)).mp h
    refine PW.runsS hs_0 rfl 2 (q := (26, [some (.ref 1000), some (.ref 0), some (.ref 39), some (.int x3)], [], σ)) (q' := (28, [some (.ref 1000), some (.ref 0), some (.ref 39), some (.int x3)], [.int x3, .ref 1000], σ)) rfl ?_
    obtain ⟨hb1, h⟩ := h
    refine PW.xald (ins_s hs_0 rfl) (idx_in hb1.1 hb1.2).1 ?_
    refine PW.runsS hs_0 rfl 2 (q := (29, [some (.ref 1000), some (.ref 0), some (.ref 39), some (.int x3)], [.int (xs (Int32.toNatClampNeg x3))], σ)) (q' := (32, [some (.ref 1000), some (.ref 0), some (.ref 39), some (.int x3)], [.int ((xs (Int32.toNatClampNeg x3)) &&& 31)], σ)) rfl ?_
    by_cases c0 : ((xs (Int32.toNatClampNeg x3)) &&& 31) = 0
    · replace h := (if_pos c0).mp h
      refine PW.tswK (k := 0) (t := 168) (ins_s hs_0 rfl) c0 (by decide) (by decide) rfl rfl ?_
      refine PW.runsS hs_1 rfl 5 (q := (168, [some (.ref 1000), some (.ref 0), some (.ref 39), some (.int x3)], [], σ)) (q' := (173, [some (.ref 1000), some (.ref 0), some (.ref 39), some (.int x3)], [.int (x3 + 1), .ref 1000, .ref 0], σ)) rfl ?_
      obtain ⟨hb2, h⟩ := h
      refine PW.xald (ins_s hs_1 rfl) (idx_in hb2.1 hb2.2).1 ?_
      refine PW.callV (b := 0) (vs := [.int (xs (Int32.toNatClampNeg (x3 + 1)))]) (rest := []) (ins_s hs_1 rfl) rfl rfl rfl (Nat.le_of_ble_eq_true rfl) (Nat.le_of_ble_eq_true rfl) (PW.mono h ?_)
      rintro _ σ1 ⟨v1, rfl, h⟩
      show PW (some (L, xs)) 194 177 [some (.ref 1000), some (.ref 0), some (.ref 39), some (.int x3)] [.int v1] σ1 _
      refine PW.runsS hs_1 rfl 6 (q := (177, [some (.ref 1000), some (.ref 0), some (.ref 39), some (.int x3)], [.int v1], σ1)) (q' := (183, [some (.ref 1000), some (.ref 0), some (.ref 39), some (.int x3)], [.int (x3 + 1), .ref 1000, .ref 39], σ1)) rfl ?_
      refine PW.xald (ins_s hs_1 rfl) (idx_in hb2.1 hb2.2).1 ?_
      refine PW.callV (b := 39) (vs := [.int (xs (Int32.toNatClampNeg (x3 + 1)))]) (rest := []) (ins_s hs_1 rfl) rfl rfl rfl (Nat.le_of_ble_eq_true rfl) (Nat.le_of_ble_eq_true rfl) (PW.mono h ?_)
      rintro _ σ2 ⟨v2, rfl, h⟩
      show PW (some (L, xs)) 194 187 [some (.ref 1000), some (.ref 0), some (.ref 39), some (.int x3)] [.int v2] σ2 _
      refine PW.runsS hs_1 rfl 4 (q := (187, [some (.ref 1000), some (.ref 0), some (.ref 39), some (.int x3)], [.int v2], σ2)) (q' := (18, [some (.ref 1000), some (.ref 0), some (.ref 39), some (.int (x3 + 5))], [], σ2)) rfl ?_
      exact h
    replace h := (if_neg c0).mp h
    by_cases c1 : ((xs (Int32.toNatClampNeg x3)) &&& 31) = 1
    · replace h := (if_pos c1).mp h
      refine PW.tswK (k := 1) (t := 191) (ins_s hs_0 rfl) c1 (by decide) (by decide) rfl rfl ?_
      refine PW.runsS hs_2 rfl 1 (q := (191, [some (.ref 1000), some (.ref 0), some (.ref 39), some (.int x3)], [], σ)) (q' := (192, [some (.ref 1000), some (.ref 0), some (.ref 39), some (.int x3)], [.ref 0], σ)) rfl ?_
      refine PW.callV (b := 0) (vs := []) (rest := []) (ins_s hs_2 rfl) rfl rfl rfl (Nat.le_of_ble_eq_true rfl) (Nat.le_of_ble_eq_true rfl) (PW.mono h ?_)
      rintro _ σ3 ⟨v3, rfl, h⟩
      show PW (some (L, xs)) 194 195 [some (.ref 1000), some (.ref 0), some (.ref 39), some (.int x3)] [.int v3] σ3 _
      refine PW.runsS hs_2 rfl 2 (q := (195, [some (.ref 1000), some (.ref 0), some (.ref 39), some (.int x3)], [.int v3], σ3)) (q' := (197, [some (.ref 1000), some (.ref 0), some (.ref 39), some (.int x3)], [.ref 39], σ3)) rfl ?_
      refine PW.callV (b := 39) (vs := []) (rest := []) (ins_s hs_2 rfl) rfl rfl rfl (Nat.le_of_ble_eq_true rfl) (Nat.le_of_ble_eq_true rfl) (PW.mono h ?_)
      rintro _ σ4 ⟨v4, rfl, h⟩
      show PW (some (L, xs)) 194 200 [some (.ref 1000), some (.ref 0), some (.ref 39), some (.int x3)] [.int v4] σ4 _
      refine PW.runsS hs_2 rfl 4 (q := (200, [some (.ref 1000), some (.ref 0), some (.ref 39), some (.int x3)], [.int v4], σ4)) (q' := (18, [some (.ref 1000), some (.ref 0), some (.ref 39), some (.int (x3 + 5))], [], σ4)) rfl ?_
      exact h
    replace h := (if_neg c1).mp h
    by_cases c2 : ((xs (Int32.toNatClampNeg x3)) &&& 31) = 2
    · replace h := (if_pos c2).mp h
      refine PW.tswK (k := 2) (t := 204) (ins_s hs_0 rfl) c2 (by decide) (by decide) rfl rfl ?_
      refine PW.runsS hs_3 rfl 1 (q := (204, [some (.ref 1000), some (.ref 0), some (.ref 39), some (.int x3)], [], σ)) (q' := (205, [some (.ref 1000), some (.ref 0), some (.ref 39), some (.int x3)], [.ref 0], σ)) rfl ?_
      refine PW.callV (b := 0) (vs := []) (rest := []) (ins_s hs_3 rfl) rfl rfl rfl (Nat.le_of_ble_eq_true rfl) (Nat.le_of_ble_eq_true rfl) (PW.mono h ?_)
      rintro _ σ5 ⟨v5, rfl, h⟩
      show PW (some (L, xs)) 194 208 [some (.ref 1000), some (.ref 0), some (.ref 39), some (.int x3)] [.int v5] σ5 _
      refine PW.runsS hs_3 rfl 2 (q := (208, [some (.ref 1000), some (.ref 0), some (.ref 39), some (.int x3)], [.int v5], σ5)) (q' := (210, [some (.ref 1000), some (.ref 0), some (.ref 39), some (.int x3)], [.ref 39], σ5)) rfl ?_
      refine PW.callV (b := 39) (vs := []) (rest := []) (ins_s hs_3 rfl) rfl rfl rfl (Nat.le_of_ble_eq_true rfl) (Nat.le_of_ble_eq_true rfl) (PW.mono h ?_)
      rintro _ σ6 ⟨v6, rfl, h⟩
      show PW (some (L, xs)) 194 213 [some (.ref 1000), some (.ref 0), some (.ref 39), some (.int x3)] [.int v6] σ6 _
      refine PW.runsS hs_3 rfl 4 (q := (213, [some (.ref 1000), some (.ref 0), some (.ref 39), some (.int x3)], [.int v6], σ6)) (q' := (18, [some (.ref 1000), some (.ref 0), some (.ref 39), some (.int (x3 + 5))], [], σ6)) rfl ?_
      exact h
    replace h := (if_neg c2).mp h
    by_cases c3 : ((xs (Int32.toNatClampNeg x3)) &&& 31) = 3
    · replace h := (if_pos c3).mp h
      refine PW.tswK (k := 3) (t := 217) (ins_s hs_0 rfl) c3 (by decide) (by decide) rfl rfl ?_
      refine PW.runsS hs_4 rfl 5 (q := (217, [some (.ref 1000), some (.ref 0), some (.ref 39), some (.int x3)], [], σ)) (q' := (222, [some (.ref 1000), some (.ref 0), some (.ref 39), some (.int x3)], [.int (x3 + 1), .ref 1000, .ref 0], σ)) rfl ?_
      obtain ⟨hb2, h⟩ := h
      refine PW.xald (ins_s hs_4 rfl) (idx_in hb2.1 hb2.2).1 ?_
      refine PW.callV (b := 0) (vs := [.int (xs (Int32.toNatClampNeg (x3 + 1)))]) (rest := []) (ins_s hs_4 rfl) rfl rfl rfl (Nat.le_of_ble_eq_true rfl) (Nat.le_of_ble_eq_true rfl) (PW.mono h ?_)
      rintro _ σ7 ⟨v7, rfl, h⟩
      show PW (some (L, xs)) 194 226 [some (.ref 1000), some (.ref 0), some (.ref 39), some (.int x3)] [.int v7] σ7 _
      refine PW.runsS hs_4 rfl 6 (q := (226, [some (.ref 1000), some (.ref 0), some (.ref 39), some (.int x3)], [.int v7], σ7)) (q' := (232, [some (.ref 1000), some (.ref 0), some (.ref 39), some (.int x3)], [.int (x3 + 1), .ref 1000, .ref 39], σ7)) rfl ?_
      refine PW.xald (ins_s hs_4 rfl) (idx_in hb2.1 hb2.2).1 ?_
      refine PW.callV (b := 39) (vs := [.int (xs (Int32.toNatClampNeg (x3 + 1)))]) (rest := []) (ins_s hs_4 rfl) rfl rfl rfl (Nat.le_of_ble_eq_true rfl) (Nat.le_of_ble_eq_true rfl) (PW.mono h ?_)
      rintro _ σ8 ⟨v8, rfl, h⟩
      show PW (some (L, xs)) 194 236 [some (.ref 1000), some (.ref 0), some (.ref 39), some (.int x3)] [.int v8] σ8 _
      refine PW.runsS hs_4 rfl 4 (q := (236, [some (.ref 1000), some (.ref 0), some (.ref 39), some (.int x3)], [.int v8], σ8)) (q' := (18, [some (.ref 1000), some (.ref 0), some (.ref 39), some (.int (x3 + 5))], [], σ8)) rfl ?_
      exact h
    replace h := (if_neg c3).mp h
    by_cases c4 : ((xs (Int32.toNatClampNeg x3)) &&& 31) = 4
    · replace h := (if_pos c4).mp h
      refine PW.tswK (k := 4) (t := 240) (ins_s hs_0 rfl) c4 (by decide) (by decide) rfl rfl ?_
      refine PW.runsS hs_5 rfl 5 (q := (240, [some (.ref 1000), some (.ref 0), some (.ref 39), some (.int x3)], [], σ)) (q' := (245, [some (.ref 1000), some (.ref 0), some (.ref 39), some (.int x3)], [.int (x3 + 1), .ref 1000, .ref 0], σ)) rfl ?_
      obtain ⟨hb2, h⟩ := h
      refine PW.xald (ins_s hs_5 rfl) (idx_in hb2.1 hb2.2).1 ?_
      refine PW.runsS hs_5 rfl 4 (q := (246, [some (.ref 1000), some (.ref 0), some (.ref 39), some (.int x3)], [.int (xs (Int32.toNatClampNeg (x3 + 1))), .ref 0], σ)) (q' := (250, [some (.ref 1000), some (.ref 0), some (.ref 39), some (.int x3)], [.int (x3 + 2), .ref 1000, .int (xs (Int32.toNatClampNeg (x3 + 1))), .ref 0], σ)) rfl ?_
      obtain ⟨hb3, h⟩ := h
      refine PW.xald (ins_s hs_5 rfl) (idx_in hb3.1 hb3.2).1 ?_
      refine PW.callV (b := 0) (vs := [.int (xs (Int32.toNatClampNeg (x3 + 1))), .int (xs (Int32.toNatClampNeg (x3 + 2)))]) (rest := []) (ins_s hs_5 rfl) rfl rfl rfl (Nat.le_of_ble_eq_true rfl) (Nat.le_of_ble_eq_true rfl) (PW.mono h ?_)
      rintro _ σ9 ⟨v9, rfl, h⟩
      show PW (some (L, xs)) 194 254 [some (.ref 1000), some (.ref 0), some (.ref 39), some (.int x3)] [.int v9] σ9 _
      refine PW.runsS hs_5 rfl 6 (q := (254, [some (.ref 1000), some (.ref 0), some (.ref 39), some (.int x3)], [.int v9], σ9)) (q' := (260, [some (.ref 1000), some (.ref 0), some (.ref 39), some (.int x3)], [.int (x3 + 1), .ref 1000, .ref 39], σ9)) rfl ?_
      refine PW.xald (ins_s hs_5 rfl) (idx_in hb2.1 hb2.2).1 ?_
      refine PW.runsS hs_5 rfl 4 (q := (261, [some (.ref 1000), some (.ref 0), some (.ref 39), some (.int x3)], [.int (xs (Int32.toNatClampNeg (x3 + 1))), .ref 39], σ9)) (q' := (265, [some (.ref 1000), some (.ref 0), some (.ref 39), some (.int x3)], [.int (x3 + 2), .ref 1000, .int (xs (Int32.toNatClampNeg (x3 + 1))), .ref 39], σ9)) rfl ?_
      refine PW.xald (ins_s hs_5 rfl) (idx_in hb3.1 hb3.2).1 ?_
      refine PW.callV (b := 39) (vs := [.int (xs (Int32.toNatClampNeg (x3 + 1))), .int (xs (Int32.toNatClampNeg (x3 + 2)))]) (rest := []) (ins_s hs_5 rfl) rfl rfl rfl (Nat.le_of_ble_eq_true rfl) (Nat.le_of_ble_eq_true rfl) (PW.mono h ?_)
      rintro _ σ10 ⟨v10, rfl, h⟩
      show PW (some (L, xs)) 194 269 [some (.ref 1000), some (.ref 0), some (.ref 39), some (.int x3)] [.int v10] σ10 _
      refine PW.runsS hs_5 rfl 4 (q := (269, [some (.ref 1000), some (.ref 0), some (.ref 39), some (.int x3)], [.int v10], σ10)) (q' := (18, [some (.ref 1000), some (.ref 0), some (.ref 39), some (.int (x3 + 5))], [], σ10)) rfl ?_
      exact h
    replace h := (if_neg c4).mp h
    by_cases c5 : ((xs (Int32.toNatClampNeg x3)) &&& 31) = 5
    · replace h := (if_pos c5).mp h
      refine PW.tswK (k := 5) (t := 273) (ins_s hs_0 rfl) c5 (by decide) (by decide) rfl rfl ?_
      refine PW.runsS hs_6 rfl 5 (q := (273, [some (.ref 1000), some (.ref 0), some (.ref 39), some (.int x3)], [], σ)) (q' := (278, [some (.ref 1000), some (.ref 0), some (.ref 39), some (.int x3)], [.int (x3 + 1), .ref 1000, .ref 0], σ)) rfl ?_
      obtain ⟨hb2, h⟩ := h
      refine PW.xald (ins_s hs_6 rfl) (idx_in hb2.1 hb2.2).1 ?_
      refine PW.runsS hs_6 rfl 4 (q := (279, [some (.ref 1000), some (.ref 0), some (.ref 39), some (.int x3)], [.int (xs (Int32.toNatClampNeg (x3 + 1))), .ref 0], σ)) (q' := (283, [some (.ref 1000), some (.ref 0), some (.ref 39), some (.int x3)], [.int (x3 + 2), .ref 1000, .int (xs (Int32.toNatClampNeg (x3 + 1))), .ref 0], σ)) rfl ?_
      obtain ⟨hb3, h⟩ := h
      refine PW.xald (ins_s hs_6 rfl) (idx_in hb3.1 hb3.2).1 ?_
      refine PW.callV (b := 0) (vs := [.int (xs (Int32.toNatClampNeg (x3 + 1))), .int (xs (Int32.toNatClampNeg (x3 + 2)))]) (rest := []) (ins_s hs_6 rfl) rfl rfl rfl (Nat.le_of_ble_eq_true rfl) (Nat.le_of_ble_eq_true rfl) (PW.mono h ?_)
      rintro _ σ11 ⟨v11, rfl, h⟩
      show PW (some (L, xs)) 194 287 [some (.ref 1000), some (.ref 0), some (.ref 39), some (.int x3)] [.int v11] σ11 _
      refine PW.runsS hs_6 rfl 6 (q := (287, [some (.ref 1000), some (.ref 0), some (.ref 39), some (.int x3)], [.int v11], σ11)) (q' := (293, [some (.ref 1000), some (.ref 0), some (.ref 39), some (.int x3)], [.int (x3 + 1), .ref 1000, .ref 39], σ11)) rfl ?_
      refine PW.xald (ins_s hs_6 rfl) (idx_in hb2.1 hb2.2).1 ?_
      refine PW.runsS hs_6 rfl 4 (q := (294, [some (.ref 1000), some (.ref 0), some (.ref 39), some (.int x3)], [.int (xs (Int32.toNatClampNeg (x3 + 1))), .ref 39], σ11)) (q' := (298, [some (.ref 1000), some (.ref 0), some (.ref 39), some (.int x3)], [.int (x3 + 2), .ref 1000, .int (xs (Int32.toNatClampNeg (x3 + 1))), .ref 39], σ11)) rfl ?_
      refine PW.xald (ins_s hs_6 rfl) (idx_in hb3.1 hb3.2).1 ?_
      refine PW.callV (b := 39) (vs := [.int (xs (Int32.toNatClampNeg (x3 + 1))), .int (xs (Int32.toNatClampNeg (x3 + 2)))]) (rest := []) (ins_s hs_6 rfl) rfl rfl rfl (Nat.le_of_ble_eq_true rfl) (Nat.le_of_ble_eq_true rfl) (PW.mono h ?_)
      rintro _ σ12 ⟨v12, rfl, h⟩
      show PW (some (L, xs)) 194 302 [some (.ref 1000), some (.ref 0), some (.ref 39), some (.int x3)] [.int v12] σ12 _
      refine PW.runsS hs_6 rfl 4 (q := (302, [some (.ref 1000), some (.ref 0), some (.ref 39), some (.int x3)], [.int v12], σ12)) (q' := (18, [some (.ref 1000), some (.ref 0), some (.ref 39), some (.int (x3 + 5))], [], σ12)) rfl ?_
      exact h
    replace h := (if_neg c5).mp h
    by_cases c6 : ((xs (Int32.toNatClampNeg x3)) &&& 31) = 6
    · replace h := (if_pos c6).mp h
      refine PW.tswK (k := 6) (t := 306) (ins_s hs_0 rfl) c6 (by decide) (by decide) rfl rfl ?_
      refine PW.runsS hs_7 rfl 5 (q := (306, [some (.ref 1000), some (.ref 0), some (.ref 39), some (.int x3)], [], σ)) (q' := (311, [some (.ref 1000), some (.ref 0), some (.ref 39), some (.int x3)], [.int (x3 + 1), .ref 1000, .ref 0], σ)) rfl ?_
      obtain ⟨hb2, h⟩ := h
      refine PW.xald (ins_s hs_7 rfl) (idx_in hb2.1 hb2.2).1 ?_
      refine PW.runsS hs_7 rfl 4 (q := (312, [some (.ref 1000), some (.ref 0), some (.ref 39), some (.int x3)], [.int (xs (Int32.toNatClampNeg (x3 + 1))), .ref 0], σ)) (q' := (316, [some (.ref 1000), some (.ref 0), some (.ref 39), some (.int x3)], [.int (x3 + 2), .ref 1000, .int (xs (Int32.toNatClampNeg (x3 + 1))), .ref 0], σ)) rfl ?_
      obtain ⟨hb3, h⟩ := h
      refine PW.xald (ins_s hs_7 rfl) (idx_in hb3.1 hb3.2).1 ?_
      refine PW.runsS hs_7 rfl 4 (q := (317, [some (.ref 1000), some (.ref 0), some (.ref 39), some (.int x3)], [.int (xs (Int32.toNatClampNeg (x3 + 2))), .int (xs (Int32.toNatClampNeg (x3 + 1))), .ref 0], σ)) (q' := (321, [some (.ref 1000), some (.ref 0), some (.ref 39), some (.int x3)], [.int (x3 + 3), .ref 1000, .int (xs (Int32.toNatClampNeg (x3 + 2))), .int (xs (Int32.toNatClampNeg (x3 + 1))), .ref 0], σ)) rfl ?_
      obtain ⟨hb4, h⟩ := h
      refine PW.xald (ins_s hs_7 rfl) (idx_in hb4.1 hb4.2).1 ?_
      refine PW.ifc (t := 329) (ins_s hs_7 rfl) rfl (fun hc2 => ?_) (fun hc2 => ?_)
      · replace h := (if_pos (c_eqT hc2)).mp h
        refine PW.runsS hs_7 rfl 1 (q := (329, [some (.ref 1000), some (.ref 0), some (.ref 39), some (.int x3)], [.int (xs (Int32.toNatClampNeg (x3 + 2))), .int (xs (Int32.toNatClampNeg (x3 + 1))), .ref 0], σ)) (q' := (330, [some (.ref 1000), some (.ref 0), some (.ref 39), some (.int x3)], [.int 0, .int (xs (Int32.toNatClampNeg (x3 + 2))), .int (xs (Int32.toNatClampNeg (x3 + 1))), .ref 0], σ)) rfl ?_
        refine PW.callV (b := 0) (vs := [.int (xs (Int32.toNatClampNeg (x3 + 1))), .int (xs (Int32.toNatClampNeg (x3 + 2))), .int 0]) (rest := []) (ins_s hs_7 rfl) rfl rfl rfl (Nat.le_of_ble_eq_true rfl) (Nat.le_of_ble_eq_true rfl) (PW.mono h ?_)
        rintro _ σ13 ⟨v13, rfl, h⟩
        show PW (some (L, xs)) 194 333 [some (.ref 1000), some (.ref 0), some (.ref 39), some (.int x3)] [.int v13] σ13 _
        refine PW.runsS hs_7 rfl 6 (q := (333, [some (.ref 1000), some (.ref 0), some (.ref 39), some (.int x3)], [.int v13], σ13)) (q' := (339, [some (.ref 1000), some (.ref 0), some (.ref 39), some (.int x3)], [.int (x3 + 1), .ref 1000, .ref 39], σ13)) rfl ?_
        refine PW.xald (ins_s hs_7 rfl) (idx_in hb2.1 hb2.2).1 ?_
        refine PW.runsS hs_7 rfl 4 (q := (340, [some (.ref 1000), some (.ref 0), some (.ref 39), some (.int x3)], [.int (xs (Int32.toNatClampNeg (x3 + 1))), .ref 39], σ13)) (q' := (344, [some (.ref 1000), some (.ref 0), some (.ref 39), some (.int x3)], [.int (x3 + 2), .ref 1000, .int (xs (Int32.toNatClampNeg (x3 + 1))), .ref 39], σ13)) rfl ?_
        refine PW.xald (ins_s hs_7 rfl) (idx_in hb3.1 hb3.2).1 ?_
        refine PW.runsS hs_7 rfl 4 (q := (345, [some (.ref 1000), some (.ref 0), some (.ref 39), some (.int x3)], [.int (xs (Int32.toNatClampNeg (x3 + 2))), .int (xs (Int32.toNatClampNeg (x3 + 1))), .ref 39], σ13)) (q' := (349, [some (.ref 1000), some (.ref 0), some (.ref 39), some (.int x3)], [.int (x3 + 3), .ref 1000, .int (xs (Int32.toNatClampNeg (x3 + 2))), .int (xs (Int32.toNatClampNeg (x3 + 1))), .ref 39], σ13)) rfl ?_
        refine PW.xald (ins_s hs_7 rfl) (idx_in hb4.1 hb4.2).1 ?_
        refine PW.ifcT (t := 357) (ins_s hs_7 rfl) rfl hc2 ?_
        refine PW.runsS hs_7 rfl 1 (q := (357, [some (.ref 1000), some (.ref 0), some (.ref 39), some (.int x3)], [.int (xs (Int32.toNatClampNeg (x3 + 2))), .int (xs (Int32.toNatClampNeg (x3 + 1))), .ref 39], σ13)) (q' := (358, [some (.ref 1000), some (.ref 0), some (.ref 39), some (.int x3)], [.int 0, .int (xs (Int32.toNatClampNeg (x3 + 2))), .int (xs (Int32.toNatClampNeg (x3 + 1))), .ref 39], σ13)) rfl ?_
        refine PW.callV (b := 39) (vs := [.int (xs (Int32.toNatClampNeg (x3 + 1))), .int (xs (Int32.toNatClampNeg (x3 + 2))), .int 0]) (rest := []) (ins_s hs_7 rfl) rfl rfl rfl (Nat.le_of_ble_eq_true rfl) (Nat.le_of_ble_eq_true rfl) (PW.mono h ?_)
        rintro _ σ14 ⟨v14, rfl, h⟩
        show PW (some (L, xs)) 194 361 [some (.ref 1000), some (.ref 0), some (.ref 39), some (.int x3)] [.int v14] σ14 _
        refine PW.runsS hs_7 rfl 4 (q := (361, [some (.ref 1000), some (.ref 0), some (.ref 39), some (.int x3)], [.int v14], σ14)) (q' := (18, [some (.ref 1000), some (.ref 0), some (.ref 39), some (.int (x3 + 5))], [], σ14)) rfl ?_
        exact h
      · replace h := (if_neg (c_eqF hc2)).mp h
        refine PW.runsS hs_7 rfl 2 (q := (325, [some (.ref 1000), some (.ref 0), some (.ref 39), some (.int x3)], [.int (xs (Int32.toNatClampNeg (x3 + 2))), .int (xs (Int32.toNatClampNeg (x3 + 1))), .ref 0], σ)) (q' := (330, [some (.ref 1000), some (.ref 0), some (.ref 39), some (.int x3)], [.int 1, .int (xs (Int32.toNatClampNeg (x3 + 2))), .int (xs (Int32.toNatClampNeg (x3 + 1))), .ref 0], σ)) rfl ?_
        refine PW.callV (b := 0) (vs := [.int (xs (Int32.toNatClampNeg (x3 + 1))), .int (xs (Int32.toNatClampNeg (x3 + 2))), .int 1]) (rest := []) (ins_s hs_7 rfl) rfl rfl rfl (Nat.le_of_ble_eq_true rfl) (Nat.le_of_ble_eq_true rfl) (PW.mono h ?_)
        rintro _ σ15 ⟨v15, rfl, h⟩
        show PW (some (L, xs)) 194 333 [some (.ref 1000), some (.ref 0), some (.ref 39), some (.int x3)] [.int v15] σ15 _
        refine PW.runsS hs_7 rfl 6 (q := (333, [some (.ref 1000), some (.ref 0), some (.ref 39), some (.int x3)], [.int v15], σ15)) (q' := (339, [some (.ref 1000), some (.ref 0), some (.ref 39), some (.int x3)], [.int (x3 + 1), .ref 1000, .ref 39], σ15)) rfl ?_
        refine PW.xald (ins_s hs_7 rfl) (idx_in hb2.1 hb2.2).1 ?_
        refine PW.runsS hs_7 rfl 4 (q := (340, [some (.ref 1000), some (.ref 0), some (.ref 39), some (.int x3)], [.int (xs (Int32.toNatClampNeg (x3 + 1))), .ref 39], σ15)) (q' := (344, [some (.ref 1000), some (.ref 0), some (.ref 39), some (.int x3)], [.int (x3 + 2), .ref 1000, .int (xs (Int32.toNatClampNeg (x3 + 1))), .ref 39], σ15)) rfl ?_
        refine PW.xald (ins_s hs_7 rfl) (idx_in hb3.1 hb3.2).1 ?_
        refine PW.runsS hs_7 rfl 4 (q := (345, [some (.ref 1000), some (.ref 0), some (.ref 39), some (.int x3)], [.int (xs (Int32.toNatClampNeg (x3 + 2))), .int (xs (Int32.toNatClampNeg (x3 + 1))), .ref 39], σ15)) (q' := (349, [some (.ref 1000), some (.ref 0), some (.ref 39), some (.int x3)], [.int (x3 + 3), .ref 1000, .int (xs (Int32.toNatClampNeg (x3 + 2))), .int (xs (Int32.toNatClampNeg (x3 + 1))), .ref 39], σ15)) rfl ?_
        refine PW.xald (ins_s hs_7 rfl) (idx_in hb4.1 hb4.2).1 ?_
        refine PW.ifcF (t := 357) (ins_s hs_7 rfl) rfl hc2 ?_
        refine PW.runsS hs_7 rfl 2 (q := (353, [some (.ref 1000), some (.ref 0), some (.ref 39), some (.int x3)], [.int (xs (Int32.toNatClampNeg (x3 + 2))), .int (xs (Int32.toNatClampNeg (x3 + 1))), .ref 39], σ15)) (q' := (358, [some (.ref 1000), some (.ref 0), some (.ref 39), some (.int x3)], [.int 1, .int (xs (Int32.toNatClampNeg (x3 + 2))), .int (xs (Int32.toNatClampNeg (x3 + 1))), .ref 39], σ15)) rfl ?_
        refine PW.callV (b := 39) (vs := [.int (xs (Int32.toNatClampNeg (x3 + 1))), .int (xs (Int32.toNatClampNeg (x3 + 2))), .int 1]) (rest := []) (ins_s hs_7 rfl) rfl rfl rfl (Nat.le_of_ble_eq_true rfl) (Nat.le_of_ble_eq_true rfl) (PW.mono h ?_)
        rintro _ σ16 ⟨v16, rfl, h⟩
        show PW (some (L, xs)) 194 361 [some (.ref 1000), some (.ref 0), some (.ref 39), some (.int x3)] [.int v16] σ16 _
        refine PW.runsS hs_7 rfl 4 (q := (361, [some (.ref 1000), some (.ref 0), some (.ref 39), some (.int x3)], [.int v16], σ16)) (q' := (18, [some (.ref 1000), some (.ref 0), some (.ref 39), some (.int (x3 + 5))], [], σ16)) rfl ?_
        exact h
    replace h := (if_neg c6).mp h
    by_cases c7 : ((xs (Int32.toNatClampNeg x3)) &&& 31) = 7
    · replace h := (if_pos c7).mp h
      refine PW.tswK (k := 7) (t := 365) (ins_s hs_0 rfl) c7 (by decide) (by decide) rfl rfl ?_
      refine PW.runsS hs_8 rfl 5 (q := (365, [some (.ref 1000), some (.ref 0), some (.ref 39), some (.int x3)], [], σ)) (q' := (370, [some (.ref 1000), some (.ref 0), some (.ref 39), some (.int x3)], [.int (x3 + 1), .ref 1000, .ref 0], σ)) rfl ?_
      obtain ⟨hb2, h⟩ := h
      refine PW.xald (ins_s hs_8 rfl) (idx_in hb2.1 hb2.2).1 ?_
      refine PW.runsS hs_8 rfl 4 (q := (371, [some (.ref 1000), some (.ref 0), some (.ref 39), some (.int x3)], [.int (xs (Int32.toNatClampNeg (x3 + 1))), .ref 0], σ)) (q' := (375, [some (.ref 1000), some (.ref 0), some (.ref 39), some (.int x3)], [.int (x3 + 2), .ref 1000, .int (xs (Int32.toNatClampNeg (x3 + 1))), .ref 0], σ)) rfl ?_
      obtain ⟨hb3, h⟩ := h
      refine PW.xald (ins_s hs_8 rfl) (idx_in hb3.1 hb3.2).1 ?_
      refine PW.ifc (t := 383) (ins_s hs_8 rfl) rfl (fun hc2 => ?_) (fun hc2 => ?_)
      · replace h := (if_pos (c_eqT hc2)).mp h
        refine PW.runsS hs_8 rfl 1 (q := (383, [some (.ref 1000), some (.ref 0), some (.ref 39), some (.int x3)], [.int (xs (Int32.toNatClampNeg (x3 + 1))), .ref 0], σ)) (q' := (384, [some (.ref 1000), some (.ref 0), some (.ref 39), some (.int x3)], [.int 0, .int (xs (Int32.toNatClampNeg (x3 + 1))), .ref 0], σ)) rfl ?_
        refine PW.callV (b := 0) (vs := [.int (xs (Int32.toNatClampNeg (x3 + 1))), .int 0]) (rest := []) (ins_s hs_8 rfl) rfl rfl rfl (Nat.le_of_ble_eq_true rfl) (Nat.le_of_ble_eq_true rfl) (PW.mono h ?_)
        rintro _ σ17 ⟨v17, rfl, h⟩
        show PW (some (L, xs)) 194 387 [some (.ref 1000), some (.ref 0), some (.ref 39), some (.int x3)] [.int v17] σ17 _
        refine PW.runsS hs_8 rfl 6 (q := (387, [some (.ref 1000), some (.ref 0), some (.ref 39), some (.int x3)], [.int v17], σ17)) (q' := (393, [some (.ref 1000), some (.ref 0), some (.ref 39), some (.int x3)], [.int (x3 + 1), .ref 1000, .ref 39], σ17)) rfl ?_
        refine PW.xald (ins_s hs_8 rfl) (idx_in hb2.1 hb2.2).1 ?_
        refine PW.runsS hs_8 rfl 4 (q := (394, [some (.ref 1000), some (.ref 0), some (.ref 39), some (.int x3)], [.int (xs (Int32.toNatClampNeg (x3 + 1))), .ref 39], σ17)) (q' := (398, [some (.ref 1000), some (.ref 0), some (.ref 39), some (.int x3)], [.int (x3 + 2), .ref 1000, .int (xs (Int32.toNatClampNeg (x3 + 1))), .ref 39], σ17)) rfl ?_
        refine PW.xald (ins_s hs_8 rfl) (idx_in hb3.1 hb3.2).1 ?_
        refine PW.ifcT (t := 406) (ins_s hs_8 rfl) rfl hc2 ?_
        refine PW.runsS hs_8 rfl 1 (q := (406, [some (.ref 1000), some (.ref 0), some (.ref 39), some (.int x3)], [.int (xs (Int32.toNatClampNeg (x3 + 1))), .ref 39], σ17)) (q' := (407, [some (.ref 1000), some (.ref 0), some (.ref 39), some (.int x3)], [.int 0, .int (xs (Int32.toNatClampNeg (x3 + 1))), .ref 39], σ17)) rfl ?_
        refine PW.callV (b := 39) (vs := [.int (xs (Int32.toNatClampNeg (x3 + 1))), .int 0]) (rest := []) (ins_s hs_8 rfl) rfl rfl rfl (Nat.le_of_ble_eq_true rfl) (Nat.le_of_ble_eq_true rfl) (PW.mono h ?_)
        rintro _ σ18 ⟨v18, rfl, h⟩
        show PW (some (L, xs)) 194 410 [some (.ref 1000), some (.ref 0), some (.ref 39), some (.int x3)] [.int v18] σ18 _
        refine PW.runsS hs_8 rfl 4 (q := (410, [some (.ref 1000), some (.ref 0), some (.ref 39), some (.int x3)], [.int v18], σ18)) (q' := (18, [some (.ref 1000), some (.ref 0), some (.ref 39), some (.int (x3 + 5))], [], σ18)) rfl ?_
        exact h
      · replace h := (if_neg (c_eqF hc2)).mp h
        refine PW.runsS hs_8 rfl 2 (q := (379, [some (.ref 1000), some (.ref 0), some (.ref 39), some (.int x3)], [.int (xs (Int32.toNatClampNeg (x3 + 1))), .ref 0], σ)) (q' := (384, [some (.ref 1000), some (.ref 0), some (.ref 39), some (.int x3)], [.int 1, .int (xs (Int32.toNatClampNeg (x3 + 1))), .ref 0], σ)) rfl ?_
        refine PW.callV (b := 0) (vs := [.int (xs (Int32.toNatClampNeg (x3 + 1))), .int 1]) (rest := []) (ins_s hs_8 rfl) rfl rfl rfl (Nat.le_of_ble_eq_true rfl) (Nat.le_of_ble_eq_true rfl) (PW.mono h ?_)
        rintro _ σ19 ⟨v19, rfl, h⟩
        show PW (some (L, xs)) 194 387 [some (.ref 1000), some (.ref 0), some (.ref 39), some (.int x3)] [.int v19] σ19 _
        refine PW.runsS hs_8 rfl 6 (q := (387, [some (.ref 1000), some (.ref 0), some (.ref 39), some (.int x3)], [.int v19], σ19)) (q' := (393, [some (.ref 1000), some (.ref 0), some (.ref 39), some (.int x3)], [.int (x3 + 1), .ref 1000, .ref 39], σ19)) rfl ?_
        refine PW.xald (ins_s hs_8 rfl) (idx_in hb2.1 hb2.2).1 ?_
        refine PW.runsS hs_8 rfl 4 (q := (394, [some (.ref 1000), some (.ref 0), some (.ref 39), some (.int x3)], [.int (xs (Int32.toNatClampNeg (x3 + 1))), .ref 39], σ19)) (q' := (398, [some (.ref 1000), some (.ref 0), some (.ref 39), some (.int x3)], [.int (x3 + 2), .ref 1000, .int (xs (Int32.toNatClampNeg (x3 + 1))), .ref 39], σ19)) rfl ?_
        refine PW.xald (ins_s hs_8 rfl) (idx_in hb3.1 hb3.2).1 ?_
        refine PW.ifcF (t := 406) (ins_s hs_8 rfl) rfl hc2 ?_
        refine PW.runsS hs_8 rfl 2 (q := (402, [some (.ref 1000), some (.ref 0), some (.ref 39), some (.int x3)], [.int (xs (Int32.toNatClampNeg (x3 + 1))), .ref 39], σ19)) (q' := (407, [some (.ref 1000), some (.ref 0), some (.ref 39), some (.int x3)], [.int 1, .int (xs (Int32.toNatClampNeg (x3 + 1))), .ref 39], σ19)) rfl ?_
        refine PW.callV (b := 39) (vs := [.int (xs (Int32.toNatClampNeg (x3 + 1))), .int 1]) (rest := []) (ins_s hs_8 rfl) rfl rfl rfl (Nat.le_of_ble_eq_true rfl) (Nat.le_of_ble_eq_true rfl) (PW.mono h ?_)
        rintro _ σ20 ⟨v20, rfl, h⟩
        show PW (some (L, xs)) 194 410 [some (.ref 1000), some (.ref 0), some (.ref 39), some (.int x3)] [.int v20] σ20 _
        refine PW.runsS hs_8 rfl 4 (q := (410, [some (.ref 1000), some (.ref 0), some (.ref 39), some (.int x3)], [.int v20], σ20)) (q' := (18, [some (.ref 1000), some (.ref 0), some (.ref 39), some (.int (x3 + 5))], [], σ20)) rfl ?_
        exact h
    replace h := (if_neg c7).mp h
    by_cases c8 : ((xs (Int32.toNatClampNeg x3)) &&& 31) = 8
    · replace h := (if_pos c8).mp h
      refine PW.tswK (k := 8) (t := 414) (ins_s hs_0 rfl) c8 (by decide) (by decide) rfl rfl ?_
      refine PW.runsS hs_9 rfl 5 (q := (414, [some (.ref 1000), some (.ref 0), some (.ref 39), some (.int x3)], [], σ)) (q' := (419, [some (.ref 1000), some (.ref 0), some (.ref 39), some (.int x3)], [.int (x3 + 1), .ref 1000, .ref 0], σ)) rfl ?_
      obtain ⟨hb2, h⟩ := h
      refine PW.xald (ins_s hs_9 rfl) (idx_in hb2.1 hb2.2).1 ?_
      refine PW.runsS hs_9 rfl 4 (q := (420, [some (.ref 1000), some (.ref 0), some (.ref 39), some (.int x3)], [.int (xs (Int32.toNatClampNeg (x3 + 1))), .ref 0], σ)) (q' := (424, [some (.ref 1000), some (.ref 0), some (.ref 39), some (.int x3)], [.int (x3 + 2), .ref 1000, .int (xs (Int32.toNatClampNeg (x3 + 1))), .ref 0], σ)) rfl ?_
      obtain ⟨hb3, h⟩ := h
      refine PW.xald (ins_s hs_9 rfl) (idx_in hb3.1 hb3.2).1 ?_
      refine PW.callV (b := 0) (vs := [.int (xs (Int32.toNatClampNeg (x3 + 1))), .int (xs (Int32.toNatClampNeg (x3 + 2)))]) (rest := []) (ins_s hs_9 rfl) rfl rfl rfl (Nat.le_of_ble_eq_true rfl) (Nat.le_of_ble_eq_true rfl) (PW.mono h ?_)
      rintro _ σ21 ⟨v21, rfl, h⟩
      show PW (some (L, xs)) 194 428 [some (.ref 1000), some (.ref 0), some (.ref 39), some (.int x3)] [.int v21] σ21 _
      refine PW.runsS hs_9 rfl 6 (q := (428, [some (.ref 1000), some (.ref 0), some (.ref 39), some (.int x3)], [.int v21], σ21)) (q' := (434, [some (.ref 1000), some (.ref 0), some (.ref 39), some (.int x3)], [.int (x3 + 1), .ref 1000, .ref 39], σ21)) rfl ?_
      refine PW.xald (ins_s hs_9 rfl) (idx_in hb2.1 hb2.2).1 ?_
      refine PW.runsS hs_9 rfl 4 (q := (435, [some (.ref 1000), some (.ref 0), some (.ref 39), some (.int x3)], [.int (xs (Int32.toNatClampNeg (x3 + 1))), .ref 39], σ21)) (q' := (439, [some (.ref 1000), some (.ref 0), some (.ref 39), some (.int x3)], [.int (x3 + 2), .ref 1000, .int (xs (Int32.toNatClampNeg (x3 + 1))), .ref 39], σ21)) rfl ?_
      refine PW.xald (ins_s hs_9 rfl) (idx_in hb3.1 hb3.2).1 ?_
      refine PW.callV (b := 39) (vs := [.int (xs (Int32.toNatClampNeg (x3 + 1))), .int (xs (Int32.toNatClampNeg (x3 + 2)))]) (rest := []) (ins_s hs_9 rfl) rfl rfl rfl (Nat.le_of_ble_eq_true rfl) (Nat.le_of_ble_eq_true rfl) (PW.mono h ?_)
      rintro _ σ22 ⟨v22, rfl, h⟩
      show PW (some (L, xs)) 194 443 [some (.ref 1000), some (.ref 0), some (.ref 39), some (.int x3)] [.int v22] σ22 _
      refine PW.runsS hs_9 rfl 4 (q := (443, [some (.ref 1000), some (.ref 0), some (.ref 39), some (.int x3)], [.int v22], σ22)) (q' := (18, [some (.ref 1000), some (.ref 0), some (.ref 39), some (.int (x3 + 5))], [], σ22)) rfl ?_
      exact h
    replace h := (if_neg c8).mp h
    by_cases c9 : ((xs (Int32.toNatClampNeg x3)) &&& 31) = 9
    · replace h := (if_pos c9).mp h
      refine PW.tswK (k := 9) (t := 447) (ins_s hs_0 rfl) c9 (by decide) (by decide) rfl rfl ?_
      refine PW.runsS hs_10 rfl 5 (q := (447, [some (.ref 1000), some (.ref 0), some (.ref 39), some (.int x3)], [], σ)) (q' := (452, [some (.ref 1000), some (.ref 0), some (.ref 39), some (.int x3)], [.int (x3 + 1), .ref 1000, .ref 0], σ)) rfl ?_
      obtain ⟨hb2, h⟩ := h
      refine PW.xald (ins_s hs_10 rfl) (idx_in hb2.1 hb2.2).1 ?_
      refine PW.callV (b := 0) (vs := [.int (xs (Int32.toNatClampNeg (x3 + 1)))]) (rest := []) (ins_s hs_10 rfl) rfl rfl rfl (Nat.le_of_ble_eq_true rfl) (Nat.le_of_ble_eq_true rfl) (PW.mono h ?_)
      rintro _ σ23 ⟨v23, rfl, h⟩
      show PW (some (L, xs)) 194 456 [some (.ref 1000), some (.ref 0), some (.ref 39), some (.int x3)] [.int v23] σ23 _
      refine PW.runsS hs_10 rfl 6 (q := (456, [some (.ref 1000), some (.ref 0), some (.ref 39), some (.int x3)], [.int v23], σ23)) (q' := (462, [some (.ref 1000), some (.ref 0), some (.ref 39), some (.int x3)], [.int (x3 + 1), .ref 1000, .ref 39], σ23)) rfl ?_
      refine PW.xald (ins_s hs_10 rfl) (idx_in hb2.1 hb2.2).1 ?_
      refine PW.callV (b := 39) (vs := [.int (xs (Int32.toNatClampNeg (x3 + 1)))]) (rest := []) (ins_s hs_10 rfl) rfl rfl rfl (Nat.le_of_ble_eq_true rfl) (Nat.le_of_ble_eq_true rfl) (PW.mono h ?_)
      rintro _ σ24 ⟨v24, rfl, h⟩
      show PW (some (L, xs)) 194 466 [some (.ref 1000), some (.ref 0), some (.ref 39), some (.int x3)] [.int v24] σ24 _
      refine PW.runsS hs_10 rfl 4 (q := (466, [some (.ref 1000), some (.ref 0), some (.ref 39), some (.int x3)], [.int v24], σ24)) (q' := (18, [some (.ref 1000), some (.ref 0), some (.ref 39), some (.int (x3 + 5))], [], σ24)) rfl ?_
      exact h
    replace h := (if_neg c9).mp h
    by_cases c10 : ((xs (Int32.toNatClampNeg x3)) &&& 31) = 10
    · replace h := (if_pos c10).mp h
      refine PW.tswK (k := 10) (t := 470) (ins_s hs_0 rfl) c10 (by decide) (by decide) rfl rfl ?_
      refine PW.runsS hs_11 rfl 5 (q := (470, [some (.ref 1000), some (.ref 0), some (.ref 39), some (.int x3)], [], σ)) (q' := (475, [some (.ref 1000), some (.ref 0), some (.ref 39), some (.int x3)], [.int (x3 + 1), .ref 1000, .ref 0], σ)) rfl ?_
      obtain ⟨hb2, h⟩ := h
      refine PW.xald (ins_s hs_11 rfl) (idx_in hb2.1 hb2.2).1 ?_
      refine PW.runsS hs_11 rfl 4 (q := (476, [some (.ref 1000), some (.ref 0), some (.ref 39), some (.int x3)], [.int (xs (Int32.toNatClampNeg (x3 + 1))), .ref 0], σ)) (q' := (480, [some (.ref 1000), some (.ref 0), some (.ref 39), some (.int x3)], [.int (x3 + 2), .ref 1000, .int (xs (Int32.toNatClampNeg (x3 + 1))), .ref 0], σ)) rfl ?_
      obtain ⟨hb3, h⟩ := h
      refine PW.xald (ins_s hs_11 rfl) (idx_in hb3.1 hb3.2).1 ?_
      refine PW.callV (b := 0) (vs := [.int (xs (Int32.toNatClampNeg (x3 + 1))), .int (xs (Int32.toNatClampNeg (x3 + 2)))]) (rest := []) (ins_s hs_11 rfl) rfl rfl rfl (Nat.le_of_ble_eq_true rfl) (Nat.le_of_ble_eq_true rfl) (PW.mono h ?_)
      rintro _ σ25 ⟨v25, rfl, h⟩
      show PW (some (L, xs)) 194 484 [some (.ref 1000), some (.ref 0), some (.ref 39), some (.int x3)] [.int v25] σ25 _
      refine PW.runsS hs_11 rfl 6 (q := (484, [some (.ref 1000), some (.ref 0), some (.ref 39), some (.int x3)], [.int v25], σ25)) (q' := (490, [some (.ref 1000), some (.ref 0), some (.ref 39), some (.int x3)], [.int (x3 + 1), .ref 1000, .ref 39], σ25)) rfl ?_
      refine PW.xald (ins_s hs_11 rfl) (idx_in hb2.1 hb2.2).1 ?_
      refine PW.runsS hs_11 rfl 4 (q := (491, [some (.ref 1000), some (.ref 0), some (.ref 39), some (.int x3)], [.int (xs (Int32.toNatClampNeg (x3 + 1))), .ref 39], σ25)) (q' := (495, [some (.ref 1000), some (.ref 0), some (.ref 39), some (.int x3)], [.int (x3 + 2), .ref 1000, .int (xs (Int32.toNatClampNeg (x3 + 1))), .ref 39], σ25)) rfl ?_
      refine PW.xald (ins_s hs_11 rfl) (idx_in hb3.1 hb3.2).1 ?_
      refine PW.callV (b := 39) (vs := [.int (xs (Int32.toNatClampNeg (x3 + 1))), .int (xs (Int32.toNatClampNeg (x3 + 2)))]) (rest := []) (ins_s hs_11 rfl) rfl rfl rfl (Nat.le_of_ble_eq_true rfl) (Nat.le_of_ble_eq_true rfl) (PW.mono h ?_)
      rintro _ σ26 ⟨v26, rfl, h⟩
      show PW (some (L, xs)) 194 499 [some (.ref 1000), some (.ref 0), some (.ref 39), some (.int x3)] [.int v26] σ26 _
      refine PW.runsS hs_11 rfl 4 (q := (499, [some (.ref 1000), some (.ref 0), some (.ref 39), some (.int x3)], [.int v26], σ26)) (q' := (18, [some (.ref 1000), some (.ref 0), some (.ref 39), some (.int (x3 + 5))], [], σ26)) rfl ?_
      exact h
    replace h := (if_neg c10).mp h
    by_cases c11 : ((xs (Int32.toNatClampNeg x3)) &&& 31) = 11
    · replace h := (if_pos c11).mp h
      refine PW.tswK (k := 11) (t := 503) (ins_s hs_0 rfl) c11 (by decide) (by decide) rfl rfl ?_
      refine PW.runsS hs_12 rfl 5 (q := (503, [some (.ref 1000), some (.ref 0), some (.ref 39), some (.int x3)], [], σ)) (q' := (508, [some (.ref 1000), some (.ref 0), some (.ref 39), some (.int x3)], [.int (x3 + 1), .ref 1000, .ref 0], σ)) rfl ?_
      obtain ⟨hb2, h⟩ := h
      refine PW.xald (ins_s hs_12 rfl) (idx_in hb2.1 hb2.2).1 ?_
      refine PW.runsS hs_12 rfl 4 (q := (509, [some (.ref 1000), some (.ref 0), some (.ref 39), some (.int x3)], [.int (xs (Int32.toNatClampNeg (x3 + 1))), .ref 0], σ)) (q' := (513, [some (.ref 1000), some (.ref 0), some (.ref 39), some (.int x3)], [.int (x3 + 2), .ref 1000, .int (xs (Int32.toNatClampNeg (x3 + 1))), .ref 0], σ)) rfl ?_
      obtain ⟨hb3, h⟩ := h
      refine PW.xald (ins_s hs_12 rfl) (idx_in hb3.1 hb3.2).1 ?_
      refine PW.runsS hs_12 rfl 4 (q := (514, [some (.ref 1000), some (.ref 0), some (.ref 39), some (.int x3)], [.int (xs (Int32.toNatClampNeg (x3 + 2))), .int (xs (Int32.toNatClampNeg (x3 + 1))), .ref 0], σ)) (q' := (518, [some (.ref 1000), some (.ref 0), some (.ref 39), some (.int x3)], [.int (x3 + 3), .ref 1000, .int (xs (Int32.toNatClampNeg (x3 + 2))), .int (xs (Int32.toNatClampNeg (x3 + 1))), .ref 0], σ)) rfl ?_
      obtain ⟨hb4, h⟩ := h
      refine PW.xald (ins_s hs_12 rfl) (idx_in hb4.1 hb4.2).1 ?_
      refine PW.callV (b := 0) (vs := [.int (xs (Int32.toNatClampNeg (x3 + 1))), .int (xs (Int32.toNatClampNeg (x3 + 2))), .int (xs (Int32.toNatClampNeg (x3 + 3)))]) (rest := []) (ins_s hs_12 rfl) rfl rfl rfl (Nat.le_of_ble_eq_true rfl) (Nat.le_of_ble_eq_true rfl) (PW.mono h ?_)
      rintro _ σ27 ⟨v27, rfl, h⟩
      show PW (some (L, xs)) 194 522 [some (.ref 1000), some (.ref 0), some (.ref 39), some (.int x3)] [.int v27] σ27 _
      refine PW.runsS hs_12 rfl 6 (q := (522, [some (.ref 1000), some (.ref 0), some (.ref 39), some (.int x3)], [.int v27], σ27)) (q' := (528, [some (.ref 1000), some (.ref 0), some (.ref 39), some (.int x3)], [.int (x3 + 1), .ref 1000, .ref 39], σ27)) rfl ?_
      refine PW.xald (ins_s hs_12 rfl) (idx_in hb2.1 hb2.2).1 ?_
      refine PW.runsS hs_12 rfl 4 (q := (529, [some (.ref 1000), some (.ref 0), some (.ref 39), some (.int x3)], [.int (xs (Int32.toNatClampNeg (x3 + 1))), .ref 39], σ27)) (q' := (533, [some (.ref 1000), some (.ref 0), some (.ref 39), some (.int x3)], [.int (x3 + 2), .ref 1000, .int (xs (Int32.toNatClampNeg (x3 + 1))), .ref 39], σ27)) rfl ?_
      refine PW.xald (ins_s hs_12 rfl) (idx_in hb3.1 hb3.2).1 ?_
      refine PW.runsS hs_12 rfl 4 (q := (534, [some (.ref 1000), some (.ref 0), some (.ref 39), some (.int x3)], [.int (xs (Int32.toNatClampNeg (x3 + 2))), .int (xs (Int32.toNatClampNeg (x3 + 1))), .ref 39], σ27)) (q' := (538, [some (.ref 1000), some (.ref 0), some (.ref 39), some (.int x3)], [.int (x3 + 3), .ref 1000, .int (xs (Int32.toNatClampNeg (x3 + 2))), .int (xs (Int32.toNatClampNeg (x3 + 1))), .ref 39], σ27)) rfl ?_
      refine PW.xald (ins_s hs_12 rfl) (idx_in hb4.1 hb4.2).1 ?_
      refine PW.callV (b := 39) (vs := [.int (xs (Int32.toNatClampNeg (x3 + 1))), .int (xs (Int32.toNatClampNeg (x3 + 2))), .int (xs (Int32.toNatClampNeg (x3 + 3)))]) (rest := []) (ins_s hs_12 rfl) rfl rfl rfl (Nat.le_of_ble_eq_true rfl) (Nat.le_of_ble_eq_true rfl) (PW.mono h ?_)
      rintro _ σ28 ⟨v28, rfl, h⟩
      show PW (some (L, xs)) 194 542 [some (.ref 1000), some (.ref 0), some (.ref 39), some (.int x3)] [.int v28] σ28 _
      refine PW.runsS hs_12 rfl 4 (q := (542, [some (.ref 1000), some (.ref 0), some (.ref 39), some (.int x3)], [.int v28], σ28)) (q' := (18, [some (.ref 1000), some (.ref 0), some (.ref 39), some (.int (x3 + 5))], [], σ28)) rfl ?_
      exact h
    replace h := (if_neg c11).mp h
    by_cases c12 : ((xs (Int32.toNatClampNeg x3)) &&& 31) = 12
    · replace h := (if_pos c12).mp h
      refine PW.tswK (k := 12) (t := 546) (ins_s hs_0 rfl) c12 (by decide) (by decide) rfl rfl ?_
      refine PW.runsS hs_13 rfl 5 (q := (546, [some (.ref 1000), some (.ref 0), some (.ref 39), some (.int x3)], [], σ)) (q' := (551, [some (.ref 1000), some (.ref 0), some (.ref 39), some (.int x3)], [.int (x3 + 1), .ref 1000, .ref 0], σ)) rfl ?_
      obtain ⟨hb2, h⟩ := h
      refine PW.xald (ins_s hs_13 rfl) (idx_in hb2.1 hb2.2).1 ?_
      refine PW.callV (b := 0) (vs := [.int (xs (Int32.toNatClampNeg (x3 + 1)))]) (rest := []) (ins_s hs_13 rfl) rfl rfl rfl (Nat.le_of_ble_eq_true rfl) (Nat.le_of_ble_eq_true rfl) (PW.mono h ?_)
      rintro _ σ29 ⟨v29, rfl, h⟩
      show PW (some (L, xs)) 194 555 [some (.ref 1000), some (.ref 0), some (.ref 39), some (.int x3)] [.int v29] σ29 _
      refine PW.runsS hs_13 rfl 6 (q := (555, [some (.ref 1000), some (.ref 0), some (.ref 39), some (.int x3)], [.int v29], σ29)) (q' := (561, [some (.ref 1000), some (.ref 0), some (.ref 39), some (.int x3)], [.int (x3 + 1), .ref 1000, .ref 39], σ29)) rfl ?_
      refine PW.xald (ins_s hs_13 rfl) (idx_in hb2.1 hb2.2).1 ?_
      refine PW.callV (b := 39) (vs := [.int (xs (Int32.toNatClampNeg (x3 + 1)))]) (rest := []) (ins_s hs_13 rfl) rfl rfl rfl (Nat.le_of_ble_eq_true rfl) (Nat.le_of_ble_eq_true rfl) (PW.mono h ?_)
      rintro _ σ30 ⟨v30, rfl, h⟩
      show PW (some (L, xs)) 194 565 [some (.ref 1000), some (.ref 0), some (.ref 39), some (.int x3)] [.int v30] σ30 _
      refine PW.runsS hs_13 rfl 4 (q := (565, [some (.ref 1000), some (.ref 0), some (.ref 39), some (.int x3)], [.int v30], σ30)) (q' := (18, [some (.ref 1000), some (.ref 0), some (.ref 39), some (.int (x3 + 5))], [], σ30)) rfl ?_
      exact h
    replace h := (if_neg c12).mp h
    by_cases c13 : ((xs (Int32.toNatClampNeg x3)) &&& 31) = 13
    · replace h := (if_pos c13).mp h
      refine PW.tswK (k := 13) (t := 569) (ins_s hs_0 rfl) c13 (by decide) (by decide) rfl rfl ?_
      refine PW.runsS hs_14 rfl 5 (q := (569, [some (.ref 1000), some (.ref 0), some (.ref 39), some (.int x3)], [], σ)) (q' := (574, [some (.ref 1000), some (.ref 0), some (.ref 39), some (.int x3)], [.int (x3 + 1), .ref 1000, .ref 0], σ)) rfl ?_
      obtain ⟨hb2, h⟩ := h
      refine PW.xald (ins_s hs_14 rfl) (idx_in hb2.1 hb2.2).1 ?_
      refine PW.callV (b := 0) (vs := [.int (xs (Int32.toNatClampNeg (x3 + 1)))]) (rest := []) (ins_s hs_14 rfl) rfl rfl rfl (Nat.le_of_ble_eq_true rfl) (Nat.le_of_ble_eq_true rfl) (PW.mono h ?_)
      rintro _ σ31 ⟨v31, rfl, h⟩
      show PW (some (L, xs)) 194 578 [some (.ref 1000), some (.ref 0), some (.ref 39), some (.int x3)] [.int v31] σ31 _
      refine PW.runsS hs_14 rfl 6 (q := (578, [some (.ref 1000), some (.ref 0), some (.ref 39), some (.int x3)], [.int v31], σ31)) (q' := (584, [some (.ref 1000), some (.ref 0), some (.ref 39), some (.int x3)], [.int (x3 + 1), .ref 1000, .ref 39], σ31)) rfl ?_
      refine PW.xald (ins_s hs_14 rfl) (idx_in hb2.1 hb2.2).1 ?_
      refine PW.callV (b := 39) (vs := [.int (xs (Int32.toNatClampNeg (x3 + 1)))]) (rest := []) (ins_s hs_14 rfl) rfl rfl rfl (Nat.le_of_ble_eq_true rfl) (Nat.le_of_ble_eq_true rfl) (PW.mono h ?_)
      rintro _ σ32 ⟨v32, rfl, h⟩
      show PW (some (L, xs)) 194 588 [some (.ref 1000), some (.ref 0), some (.ref 39), some (.int x3)] [.int v32] σ32 _
      refine PW.runsS hs_14 rfl 4 (q := (588, [some (.ref 1000), some (.ref 0), some (.ref 39), some (.int x3)], [.int v32], σ32)) (q' := (18, [some (.ref 1000), some (.ref 0), some (.ref 39), some (.int (x3 + 5))], [], σ32)) rfl ?_
      exact h
    replace h := (if_neg c13).mp h
    by_cases c14 : ((xs (Int32.toNatClampNeg x3)) &&& 31) = 14
    · replace h := (if_pos c14).mp h
      refine PW.tswK (k := 14) (t := 592) (ins_s hs_0 rfl) c14 (by decide) (by decide) rfl rfl ?_
      refine PW.runsS hs_15 rfl 1 (q := (592, [some (.ref 1000), some (.ref 0), some (.ref 39), some (.int x3)], [], σ)) (q' := (593, [some (.ref 1000), some (.ref 0), some (.ref 39), some (.int x3)], [.ref 0], σ)) rfl ?_
      refine PW.callV (b := 0) (vs := []) (rest := []) (ins_s hs_15 rfl) rfl rfl rfl (Nat.le_of_ble_eq_true rfl) (Nat.le_of_ble_eq_true rfl) (PW.mono h ?_)
      rintro _ σ33 ⟨v33, rfl, h⟩
      show PW (some (L, xs)) 194 596 [some (.ref 1000), some (.ref 0), some (.ref 39), some (.int x3)] [.int v33] σ33 _
      refine PW.runsS hs_15 rfl 2 (q := (596, [some (.ref 1000), some (.ref 0), some (.ref 39), some (.int x3)], [.int v33], σ33)) (q' := (598, [some (.ref 1000), some (.ref 0), some (.ref 39), some (.int x3)], [.ref 39], σ33)) rfl ?_
      refine PW.callV (b := 39) (vs := []) (rest := []) (ins_s hs_15 rfl) rfl rfl rfl (Nat.le_of_ble_eq_true rfl) (Nat.le_of_ble_eq_true rfl) (PW.mono h ?_)
      rintro _ σ34 ⟨v34, rfl, h⟩
      show PW (some (L, xs)) 194 601 [some (.ref 1000), some (.ref 0), some (.ref 39), some (.int x3)] [.int v34] σ34 _
      refine PW.runsS hs_15 rfl 4 (q := (601, [some (.ref 1000), some (.ref 0), some (.ref 39), some (.int x3)], [.int v34], σ34)) (q' := (18, [some (.ref 1000), some (.ref 0), some (.ref 39), some (.int (x3 + 5))], [], σ34)) rfl ?_
      exact h
    replace h := (if_neg c14).mp h
    by_cases c15 : ((xs (Int32.toNatClampNeg x3)) &&& 31) = 15
    · replace h := (if_pos c15).mp h
      refine PW.tswK (k := 15) (t := 605) (ins_s hs_0 rfl) c15 (by decide) (by decide) rfl rfl ?_
      refine PW.runsS hs_16 rfl 5 (q := (605, [some (.ref 1000), some (.ref 0), some (.ref 39), some (.int x3)], [], σ)) (q' := (610, [some (.ref 1000), some (.ref 0), some (.ref 39), some (.int x3)], [.int (x3 + 1), .ref 1000, .ref 0], σ)) rfl ?_
      obtain ⟨hb2, h⟩ := h
      refine PW.xald (ins_s hs_16 rfl) (idx_in hb2.1 hb2.2).1 ?_
      refine PW.runsS hs_16 rfl 4 (q := (611, [some (.ref 1000), some (.ref 0), some (.ref 39), some (.int x3)], [.int (xs (Int32.toNatClampNeg (x3 + 1))), .ref 0], σ)) (q' := (615, [some (.ref 1000), some (.ref 0), some (.ref 39), some (.int x3)], [.int (x3 + 2), .ref 1000, .int (xs (Int32.toNatClampNeg (x3 + 1))), .ref 0], σ)) rfl ?_
      obtain ⟨hb3, h⟩ := h
      refine PW.xald (ins_s hs_16 rfl) (idx_in hb3.1 hb3.2).1 ?_
      refine PW.runsS hs_16 rfl 4 (q := (616, [some (.ref 1000), some (.ref 0), some (.ref 39), some (.int x3)], [.int (xs (Int32.toNatClampNeg (x3 + 2))), .int (xs (Int32.toNatClampNeg (x3 + 1))), .ref 0], σ)) (q' := (620, [some (.ref 1000), some (.ref 0), some (.ref 39), some (.int x3)], [.int (x3 + 3), .ref 1000, .int (xs (Int32.toNatClampNeg (x3 + 2))), .int (xs (Int32.toNatClampNeg (x3 + 1))), .ref 0], σ)) rfl ?_
      obtain ⟨hb4, h⟩ := h
      refine PW.xald (ins_s hs_16 rfl) (idx_in hb4.1 hb4.2).1 ?_
      refine PW.runsS hs_16 rfl 4 (q := (621, [some (.ref 1000), some (.ref 0), some (.ref 39), some (.int x3)], [.int (xs (Int32.toNatClampNeg (x3 + 3))), .int (xs (Int32.toNatClampNeg (x3 + 2))), .int (xs (Int32.toNatClampNeg (x3 + 1))), .ref 0], σ)) (q' := (625, [some (.ref 1000), some (.ref 0), some (.ref 39), some (.int x3)], [.int (x3 + 4), .ref 1000, .int (xs (Int32.toNatClampNeg (x3 + 3))), .int (xs (Int32.toNatClampNeg (x3 + 2))), .int (xs (Int32.toNatClampNeg (x3 + 1))), .ref 0], σ)) rfl ?_
      obtain ⟨hb5, h⟩ := h
      refine PW.xald (ins_s hs_16 rfl) (idx_in hb5.1 hb5.2).1 ?_
      refine PW.callV (b := 0) (vs := [.int (xs (Int32.toNatClampNeg (x3 + 1))), .int (xs (Int32.toNatClampNeg (x3 + 2))), .int (xs (Int32.toNatClampNeg (x3 + 3))), .int (xs (Int32.toNatClampNeg (x3 + 4)))]) (rest := []) (ins_s hs_16 rfl) rfl rfl rfl (Nat.le_of_ble_eq_true rfl) (Nat.le_of_ble_eq_true rfl) (PW.mono h ?_)
      rintro _ σ35 ⟨v35, rfl, h⟩
      show PW (some (L, xs)) 194 629 [some (.ref 1000), some (.ref 0), some (.ref 39), some (.int x3)] [.int v35] σ35 _
      refine PW.runsS hs_16 rfl 6 (q := (629, [some (.ref 1000), some (.ref 0), some (.ref 39), some (.int x3)], [.int v35], σ35)) (q' := (635, [some (.ref 1000), some (.ref 0), some (.ref 39), some (.int x3)], [.int (x3 + 1), .ref 1000, .ref 39], σ35)) rfl ?_
      refine PW.xald (ins_s hs_16 rfl) (idx_in hb2.1 hb2.2).1 ?_
      refine PW.runsS hs_16 rfl 4 (q := (636, [some (.ref 1000), some (.ref 0), some (.ref 39), some (.int x3)], [.int (xs (Int32.toNatClampNeg (x3 + 1))), .ref 39], σ35)) (q' := (640, [some (.ref 1000), some (.ref 0), some (.ref 39), some (.int x3)], [.int (x3 + 2), .ref 1000, .int (xs (Int32.toNatClampNeg (x3 + 1))), .ref 39], σ35)) rfl ?_
      refine PW.xald (ins_s hs_16 rfl) (idx_in hb3.1 hb3.2).1 ?_
      refine PW.runsS hs_16 rfl 4 (q := (641, [some (.ref 1000), some (.ref 0), some (.ref 39), some (.int x3)], [.int (xs (Int32.toNatClampNeg (x3 + 2))), .int (xs (Int32.toNatClampNeg (x3 + 1))), .ref 39], σ35)) (q' := (645, [some (.ref 1000), some (.ref 0), some (.ref 39), some (.int x3)], [.int (x3 + 3), .ref 1000, .int (xs (Int32.toNatClampNeg (x3 + 2))), .int (xs (Int32.toNatClampNeg (x3 + 1))), .ref 39], σ35)) rfl ?_
      refine PW.xald (ins_s hs_16 rfl) (idx_in hb4.1 hb4.2).1 ?_
      refine PW.runsS hs_16 rfl 4 (q := (646, [some (.ref 1000), some (.ref 0), some (.ref 39), some (.int x3)], [.int (xs (Int32.toNatClampNeg (x3 + 3))), .int (xs (Int32.toNatClampNeg (x3 + 2))), .int (xs (Int32.toNatClampNeg (x3 + 1))), .ref 39], σ35)) (q' := (650, [some (.ref 1000), some (.ref 0), some (.ref 39), some (.int x3)], [.int (x3 + 4), .ref 1000, .int (xs (Int32.toNatClampNeg (x3 + 3))), .int (xs (Int32.toNatClampNeg (x3 + 2))), .int (xs (Int32.toNatClampNeg (x3 + 1))), .ref 39], σ35)) rfl ?_
      refine PW.xald (ins_s hs_16 rfl) (idx_in hb5.1 hb5.2).1 ?_
      refine PW.callV (b := 39) (vs := [.int (xs (Int32.toNatClampNeg (x3 + 1))), .int (xs (Int32.toNatClampNeg (x3 + 2))), .int (xs (Int32.toNatClampNeg (x3 + 3))), .int (xs (Int32.toNatClampNeg (x3 + 4)))]) (rest := []) (ins_s hs_16 rfl) rfl rfl rfl (Nat.le_of_ble_eq_true rfl) (Nat.le_of_ble_eq_true rfl) (PW.mono h ?_)
      rintro _ σ36 ⟨v36, rfl, h⟩
      show PW (some (L, xs)) 194 654 [some (.ref 1000), some (.ref 0), some (.ref 39), some (.int x3)] [.int v36] σ36 _
      refine PW.runsS hs_16 rfl 4 (q := (654, [some (.ref 1000), some (.ref 0), some (.ref 39), some (.int x3)], [.int v36], σ36)) (q' := (18, [some (.ref 1000), some (.ref 0), some (.ref 39), some (.int (x3 + 5))], [], σ36)) rfl ?_
      exact h
    replace h := (if_neg c15).mp h
    by_cases c16 : ((xs (Int32.toNatClampNeg x3)) &&& 31) = 16
    · replace h := (if_pos c16).mp h
      refine PW.tswK (k := 16) (t := 658) (ins_s hs_0 rfl) c16 (by decide) (by decide) rfl rfl ?_
      refine PW.runsS hs_17 rfl 5 (q := (658, [some (.ref 1000), some (.ref 0), some (.ref 39), some (.int x3)], [], σ)) (q' := (663, [some (.ref 1000), some (.ref 0), some (.ref 39), some (.int x3)], [.int (x3 + 1), .ref 1000, .ref 0], σ)) rfl ?_
      obtain ⟨hb2, h⟩ := h
      refine PW.xald (ins_s hs_17 rfl) (idx_in hb2.1 hb2.2).1 ?_
      refine PW.runsS hs_17 rfl 4 (q := (664, [some (.ref 1000), some (.ref 0), some (.ref 39), some (.int x3)], [.int (xs (Int32.toNatClampNeg (x3 + 1))), .ref 0], σ)) (q' := (668, [some (.ref 1000), some (.ref 0), some (.ref 39), some (.int x3)], [.int (x3 + 2), .ref 1000, .int (xs (Int32.toNatClampNeg (x3 + 1))), .ref 0], σ)) rfl ?_
      obtain ⟨hb3, h⟩ := h
      refine PW.xald (ins_s hs_17 rfl) (idx_in hb3.1 hb3.2).1 ?_
      refine PW.callV (b := 0) (vs := [.int (xs (Int32.toNatClampNeg (x3 + 1))), .int (xs (Int32.toNatClampNeg (x3 + 2)))]) (rest := []) (ins_s hs_17 rfl) rfl rfl rfl (Nat.le_of_ble_eq_true rfl) (Nat.le_of_ble_eq_true rfl) (PW.mono h ?_)
      rintro _ σ37 ⟨v37, rfl, h⟩
      show PW (some (L, xs)) 194 672 [some (.ref 1000), some (.ref 0), some (.ref 39), some (.int x3)] [.int v37] σ37 _
      refine PW.runsS hs_17 rfl 6 (q := (672, [some (.ref 1000), some (.ref 0), some (.ref 39), some (.int x3)], [.int v37], σ37)) (q' := (678, [some (.ref 1000), some (.ref 0), some (.ref 39), some (.int x3)], [.int (x3 + 1), .ref 1000, .ref 39], σ37)) rfl ?_
      refine PW.xald (ins_s hs_17 rfl) (idx_in hb2.1 hb2.2).1 ?_
      refine PW.runsS hs_17 rfl 4 (q := (679, [some (.ref 1000), some (.ref 0), some (.ref 39), some (.int x3)], [.int (xs (Int32.toNatClampNeg (x3 + 1))), .ref 39], σ37)) (q' := (683, [some (.ref 1000), some (.ref 0), some (.ref 39), some (.int x3)], [.int (x3 + 2), .ref 1000, .int (xs (Int32.toNatClampNeg (x3 + 1))), .ref 39], σ37)) rfl ?_
      refine PW.xald (ins_s hs_17 rfl) (idx_in hb3.1 hb3.2).1 ?_
      refine PW.callV (b := 39) (vs := [.int (xs (Int32.toNatClampNeg (x3 + 1))), .int (xs (Int32.toNatClampNeg (x3 + 2)))]) (rest := []) (ins_s hs_17 rfl) rfl rfl rfl (Nat.le_of_ble_eq_true rfl) (Nat.le_of_ble_eq_true rfl) (PW.mono h ?_)
      rintro _ σ38 ⟨v38, rfl, h⟩
      show PW (some (L, xs)) 194 687 [some (.ref 1000), some (.ref 0), some (.ref 39), some (.int x3)] [.int v38] σ38 _
      refine PW.runsS hs_17 rfl 4 (q := (687, [some (.ref 1000), some (.ref 0), some (.ref 39), some (.int x3)], [.int v38], σ38)) (q' := (18, [some (.ref 1000), some (.ref 0), some (.ref 39), some (.int (x3 + 5))], [], σ38)) rfl ?_
      exact h
    replace h := (if_neg c16).mp h
    by_cases c17 : ((xs (Int32.toNatClampNeg x3)) &&& 31) = 17
    · replace h := (if_pos c17).mp h
      refine PW.tswK (k := 17) (t := 691) (ins_s hs_0 rfl) c17 (by decide) (by decide) rfl rfl ?_
      refine PW.runsS hs_18 rfl 5 (q := (691, [some (.ref 1000), some (.ref 0), some (.ref 39), some (.int x3)], [], σ)) (q' := (696, [some (.ref 1000), some (.ref 0), some (.ref 39), some (.int x3)], [.int (x3 + 1), .ref 1000, .ref 0], σ)) rfl ?_
      obtain ⟨hb2, h⟩ := h
      refine PW.xald (ins_s hs_18 rfl) (idx_in hb2.1 hb2.2).1 ?_
      refine PW.runsS hs_18 rfl 4 (q := (697, [some (.ref 1000), some (.ref 0), some (.ref 39), some (.int x3)], [.int (xs (Int32.toNatClampNeg (x3 + 1))), .ref 0], σ)) (q' := (701, [some (.ref 1000), some (.ref 0), some (.ref 39), some (.int x3)], [.int (x3 + 2), .ref 1000, .int (xs (Int32.toNatClampNeg (x3 + 1))), .ref 0], σ)) rfl ?_
      obtain ⟨hb3, h⟩ := h
      refine PW.xald (ins_s hs_18 rfl) (idx_in hb3.1 hb3.2).1 ?_
      refine PW.callV (b := 0) (vs := [.int (xs (Int32.toNatClampNeg (x3 + 1))), .int (xs (Int32.toNatClampNeg (x3 + 2)))]) (rest := []) (ins_s hs_18 rfl) rfl rfl rfl (Nat.le_of_ble_eq_true rfl) (Nat.le_of_ble_eq_true rfl) (PW.mono h ?_)
      rintro _ σ39 ⟨v39, rfl, h⟩
      show PW (some (L, xs)) 194 705 [some (.ref 1000), some (.ref 0), some (.ref 39), some (.int x3)] [.int v39] σ39 _
      refine PW.runsS hs_18 rfl 5 (q := (705, [some (.ref 1000), some (.ref 0), some (.ref 39), some (.int x3)], [.int v39], σ39)) (q' := (710, [some (.ref 1000), some (.ref 0), some (.ref 39), some (.int x3)], [.int (x3 + 1), .ref 1000, .ref 39, .int v39], σ39)) rfl ?_
      refine PW.xald (ins_s hs_18 rfl) (idx_in hb2.1 hb2.2).1 ?_
      refine PW.runsS hs_18 rfl 4 (q := (711, [some (.ref 1000), some (.ref 0), some (.ref 39), some (.int x3)], [.int (xs (Int32.toNatClampNeg (x3 + 1))), .ref 39, .int v39], σ39)) (q' := (715, [some (.ref 1000), some (.ref 0), some (.ref 39), some (.int x3)], [.int (x3 + 2), .ref 1000, .int (xs (Int32.toNatClampNeg (x3 + 1))), .ref 39, .int v39], σ39)) rfl ?_
      refine PW.xald (ins_s hs_18 rfl) (idx_in hb3.1 hb3.2).1 ?_
      refine PW.callV (b := 39) (vs := [.int (xs (Int32.toNatClampNeg (x3 + 1))), .int (xs (Int32.toNatClampNeg (x3 + 2)))]) (rest := [.int v39]) (ins_s hs_18 rfl) rfl rfl rfl (Nat.le_of_ble_eq_true rfl) (Nat.le_of_ble_eq_true rfl) (PW.mono h ?_)
      rintro _ σ40 ⟨v40, rfl, h⟩
      show PW (some (L, xs)) 194 719 [some (.ref 1000), some (.ref 0), some (.ref 39), some (.int x3)] [.int v40, .int v39] σ40 _
      refine PW.icm (t := 1040) (ins_s hs_18 rfl) rfl (fun hc2 => ?_) (fun hc2 => ?_)
      · replace h := (if_pos (c_eqT hc2)).mp h
        refine PW.runsS hs_18 rfl 2 (q := (1040, [some (.ref 1000), some (.ref 0), some (.ref 39), some (.int x3)], [], σ40)) (q' := (18, [some (.ref 1000), some (.ref 0), some (.ref 39), some (.int (x3 + 5))], [], σ40)) rfl ?_
        exact h
      · replace h := (if_neg (c_eqF hc2)).mp h
        refine PW.runsS hs_18 rfl 1 (q := (722, [some (.ref 1000), some (.ref 0), some (.ref 39), some (.int x3)], [], σ40)) (q' := (723, [some (.ref 1000), some (.ref 0), some (.ref 39), some (.int x3)], [.int 0], σ40)) rfl ?_
        exact h.elim
    replace h := (if_neg c17).mp h
    by_cases c18 : ((xs (Int32.toNatClampNeg x3)) &&& 31) = 18
    · replace h := (if_pos c18).mp h
      refine PW.tswK (k := 18) (t := 724) (ins_s hs_0 rfl) c18 (by decide) (by decide) rfl rfl ?_
      refine PW.runsS hs_19 rfl 5 (q := (724, [some (.ref 1000), some (.ref 0), some (.ref 39), some (.int x3)], [], σ)) (q' := (729, [some (.ref 1000), some (.ref 0), some (.ref 39), some (.int x3)], [.int (x3 + 1), .ref 1000, .ref 0], σ)) rfl ?_
      obtain ⟨hb2, h⟩ := h
      refine PW.xald (ins_s hs_19 rfl) (idx_in hb2.1 hb2.2).1 ?_
      refine PW.runsS hs_19 rfl 4 (q := (730, [some (.ref 1000), some (.ref 0), some (.ref 39), some (.int x3)], [.int (xs (Int32.toNatClampNeg (x3 + 1))), .ref 0], σ)) (q' := (734, [some (.ref 1000), some (.ref 0), some (.ref 39), some (.int x3)], [.int (x3 + 2), .ref 1000, .int (xs (Int32.toNatClampNeg (x3 + 1))), .ref 0], σ)) rfl ?_
      obtain ⟨hb3, h⟩ := h
      refine PW.xald (ins_s hs_19 rfl) (idx_in hb3.1 hb3.2).1 ?_
      refine PW.callV (b := 0) (vs := [.int (xs (Int32.toNatClampNeg (x3 + 1))), .int (xs (Int32.toNatClampNeg (x3 + 2)))]) (rest := []) (ins_s hs_19 rfl) rfl rfl rfl (Nat.le_of_ble_eq_true rfl) (Nat.le_of_ble_eq_true rfl) (PW.mono h ?_)
      rintro _ σ41 ⟨v41, rfl, h⟩
      show PW (some (L, xs)) 194 738 [some (.ref 1000), some (.ref 0), some (.ref 39), some (.int x3)] [.int v41] σ41 _
      refine PW.runsS hs_19 rfl 6 (q := (738, [some (.ref 1000), some (.ref 0), some (.ref 39), some (.int x3)], [.int v41], σ41)) (q' := (744, [some (.ref 1000), some (.ref 0), some (.ref 39), some (.int x3)], [.int (x3 + 1), .ref 1000, .ref 39], σ41)) rfl ?_
      refine PW.xald (ins_s hs_19 rfl) (idx_in hb2.1 hb2.2).1 ?_
      refine PW.runsS hs_19 rfl 4 (q := (745, [some (.ref 1000), some (.ref 0), some (.ref 39), some (.int x3)], [.int (xs (Int32.toNatClampNeg (x3 + 1))), .ref 39], σ41)) (q' := (749, [some (.ref 1000), some (.ref 0), some (.ref 39), some (.int x3)], [.int (x3 + 2), .ref 1000, .int (xs (Int32.toNatClampNeg (x3 + 1))), .ref 39], σ41)) rfl ?_
      refine PW.xald (ins_s hs_19 rfl) (idx_in hb3.1 hb3.2).1 ?_
      refine PW.callV (b := 39) (vs := [.int (xs (Int32.toNatClampNeg (x3 + 1))), .int (xs (Int32.toNatClampNeg (x3 + 2)))]) (rest := []) (ins_s hs_19 rfl) rfl rfl rfl (Nat.le_of_ble_eq_true rfl) (Nat.le_of_ble_eq_true rfl) (PW.mono h ?_)
      rintro _ σ42 ⟨v42, rfl, h⟩
      show PW (some (L, xs)) 194 753 [some (.ref 1000), some (.ref 0), some (.ref 39), some (.int x3)] [.int v42] σ42 _
      refine PW.runsS hs_19 rfl 4 (q := (753, [some (.ref 1000), some (.ref 0), some (.ref 39), some (.int x3)], [.int v42], σ42)) (q' := (18, [some (.ref 1000), some (.ref 0), some (.ref 39), some (.int (x3 + 5))], [], σ42)) rfl ?_
      exact h
    replace h := (if_neg c18).mp h
    by_cases c19 : ((xs (Int32.toNatClampNeg x3)) &&& 31) = 19
    · replace h := (if_pos c19).mp h
      refine PW.tswK (k := 19) (t := 757) (ins_s hs_0 rfl) c19 (by decide) (by decide) rfl rfl ?_
      refine PW.runsS hs_20 rfl 5 (q := (757, [some (.ref 1000), some (.ref 0), some (.ref 39), some (.int x3)], [], σ)) (q' := (762, [some (.ref 1000), some (.ref 0), some (.ref 39), some (.int x3)], [.int (x3 + 1), .ref 1000, .ref 0], σ)) rfl ?_
      obtain ⟨hb2, h⟩ := h
      refine PW.xald (ins_s hs_20 rfl) (idx_in hb2.1 hb2.2).1 ?_
      refine PW.runsS hs_20 rfl 4 (q := (763, [some (.ref 1000), some (.ref 0), some (.ref 39), some (.int x3)], [.int (xs (Int32.toNatClampNeg (x3 + 1))), .ref 0], σ)) (q' := (767, [some (.ref 1000), some (.ref 0), some (.ref 39), some (.int x3)], [.int (x3 + 2), .ref 1000, .int (xs (Int32.toNatClampNeg (x3 + 1))), .ref 0], σ)) rfl ?_
      obtain ⟨hb3, h⟩ := h
      refine PW.xald (ins_s hs_20 rfl) (idx_in hb3.1 hb3.2).1 ?_
      refine PW.callV (b := 0) (vs := [.int (xs (Int32.toNatClampNeg (x3 + 1))), .int (xs (Int32.toNatClampNeg (x3 + 2)))]) (rest := []) (ins_s hs_20 rfl) rfl rfl rfl (Nat.le_of_ble_eq_true rfl) (Nat.le_of_ble_eq_true rfl) (PW.mono h ?_)
      rintro _ σ43 ⟨v43, rfl, h⟩
      show PW (some (L, xs)) 194 771 [some (.ref 1000), some (.ref 0), some (.ref 39), some (.int x3)] [.int v43] σ43 _
      refine PW.runsS hs_20 rfl 6 (q := (771, [some (.ref 1000), some (.ref 0), some (.ref 39), some (.int x3)], [.int v43], σ43)) (q' := (777, [some (.ref 1000), some (.ref 0), some (.ref 39), some (.int x3)], [.int (x3 + 1), .ref 1000, .ref 39], σ43)) rfl ?_
      refine PW.xald (ins_s hs_20 rfl) (idx_in hb2.1 hb2.2).1 ?_
      refine PW.runsS hs_20 rfl 4 (q := (778, [some (.ref 1000), some (.ref 0), some (.ref 39), some (.int x3)], [.int (xs (Int32.toNatClampNeg (x3 + 1))), .ref 39], σ43)) (q' := (782, [some (.ref 1000), some (.ref 0), some (.ref 39), some (.int x3)], [.int (x3 + 2), .ref 1000, .int (xs (Int32.toNatClampNeg (x3 + 1))), .ref 39], σ43)) rfl ?_
      refine PW.xald (ins_s hs_20 rfl) (idx_in hb3.1 hb3.2).1 ?_
      refine PW.callV (b := 39) (vs := [.int (xs (Int32.toNatClampNeg (x3 + 1))), .int (xs (Int32.toNatClampNeg (x3 + 2)))]) (rest := []) (ins_s hs_20 rfl) rfl rfl rfl (Nat.le_of_ble_eq_true rfl) (Nat.le_of_ble_eq_true rfl) (PW.mono h ?_)
      rintro _ σ44 ⟨v44, rfl, h⟩
      show PW (some (L, xs)) 194 786 [some (.ref 1000), some (.ref 0), some (.ref 39), some (.int x3)] [.int v44] σ44 _
      refine PW.runsS hs_20 rfl 4 (q := (786, [some (.ref 1000), some (.ref 0), some (.ref 39), some (.int x3)], [.int v44], σ44)) (q' := (18, [some (.ref 1000), some (.ref 0), some (.ref 39), some (.int (x3 + 5))], [], σ44)) rfl ?_
      exact h
    replace h := (if_neg c19).mp h
    by_cases c20 : ((xs (Int32.toNatClampNeg x3)) &&& 31) = 20
    · replace h := (if_pos c20).mp h
      refine PW.tswK (k := 20) (t := 790) (ins_s hs_0 rfl) c20 (by decide) (by decide) rfl rfl ?_
      refine PW.runsS hs_21 rfl 5 (q := (790, [some (.ref 1000), some (.ref 0), some (.ref 39), some (.int x3)], [], σ)) (q' := (795, [some (.ref 1000), some (.ref 0), some (.ref 39), some (.int x3)], [.int (x3 + 1), .ref 1000, .ref 0], σ)) rfl ?_
      obtain ⟨hb2, h⟩ := h
      refine PW.xald (ins_s hs_21 rfl) (idx_in hb2.1 hb2.2).1 ?_
      refine PW.callV (b := 0) (vs := [.int (xs (Int32.toNatClampNeg (x3 + 1)))]) (rest := []) (ins_s hs_21 rfl) rfl rfl rfl (Nat.le_of_ble_eq_true rfl) (Nat.le_of_ble_eq_true rfl) (PW.mono h ?_)
      rintro _ σ45 ⟨v45, rfl, h⟩
      show PW (some (L, xs)) 194 799 [some (.ref 1000), some (.ref 0), some (.ref 39), some (.int x3)] [.int v45] σ45 _
      refine PW.runsS hs_21 rfl 6 (q := (799, [some (.ref 1000), some (.ref 0), some (.ref 39), some (.int x3)], [.int v45], σ45)) (q' := (805, [some (.ref 1000), some (.ref 0), some (.ref 39), some (.int x3)], [.int (x3 + 1), .ref 1000, .ref 39], σ45)) rfl ?_
      refine PW.xald (ins_s hs_21 rfl) (idx_in hb2.1 hb2.2).1 ?_
      refine PW.callV (b := 39) (vs := [.int (xs (Int32.toNatClampNeg (x3 + 1)))]) (rest := []) (ins_s hs_21 rfl) rfl rfl rfl (Nat.le_of_ble_eq_true rfl) (Nat.le_of_ble_eq_true rfl) (PW.mono h ?_)
      rintro _ σ46 ⟨v46, rfl, h⟩
      show PW (some (L, xs)) 194 809 [some (.ref 1000), some (.ref 0), some (.ref 39), some (.int x3)] [.int v46] σ46 _
      refine PW.runsS hs_21 rfl 4 (q := (809, [some (.ref 1000), some (.ref 0), some (.ref 39), some (.int x3)], [.int v46], σ46)) (q' := (18, [some (.ref 1000), some (.ref 0), some (.ref 39), some (.int (x3 + 5))], [], σ46)) rfl ?_
      exact h
    replace h := (if_neg c20).mp h
    by_cases c21 : ((xs (Int32.toNatClampNeg x3)) &&& 31) = 21
    · replace h := (if_pos c21).mp h
      refine PW.tswK (k := 21) (t := 813) (ins_s hs_0 rfl) c21 (by decide) (by decide) rfl rfl ?_
      refine PW.runsS hs_22 rfl 5 (q := (813, [some (.ref 1000), some (.ref 0), some (.ref 39), some (.int x3)], [], σ)) (q' := (818, [some (.ref 1000), some (.ref 0), some (.ref 39), some (.int x3)], [.int (x3 + 1), .ref 1000, .ref 0], σ)) rfl ?_
      obtain ⟨hb2, h⟩ := h
      refine PW.xald (ins_s hs_22 rfl) (idx_in hb2.1 hb2.2).1 ?_
      refine PW.runsS hs_22 rfl 4 (q := (819, [some (.ref 1000), some (.ref 0), some (.ref 39), some (.int x3)], [.int (xs (Int32.toNatClampNeg (x3 + 1))), .ref 0], σ)) (q' := (823, [some (.ref 1000), some (.ref 0), some (.ref 39), some (.int x3)], [.int (x3 + 2), .ref 1000, .int (xs (Int32.toNatClampNeg (x3 + 1))), .ref 0], σ)) rfl ?_
      obtain ⟨hb3, h⟩ := h
      refine PW.xald (ins_s hs_22 rfl) (idx_in hb3.1 hb3.2).1 ?_
      refine PW.callV (b := 0) (vs := [.int (xs (Int32.toNatClampNeg (x3 + 1))), .int (xs (Int32.toNatClampNeg (x3 + 2)))]) (rest := []) (ins_s hs_22 rfl) rfl rfl rfl (Nat.le_of_ble_eq_true rfl) (Nat.le_of_ble_eq_true rfl) (PW.mono h ?_)
      rintro _ σ47 ⟨v47, rfl, h⟩
      show PW (some (L, xs)) 194 827 [some (.ref 1000), some (.ref 0), some (.ref 39), some (.int x3)] [.int v47] σ47 _
      refine PW.runsS hs_22 rfl 6 (q := (827, [some (.ref 1000), some (.ref 0), some (.ref 39), some (.int x3)], [.int v47], σ47)) (q' := (833, [some (.ref 1000), some (.ref 0), some (.ref 39), some (.int x3)], [.int (x3 + 1), .ref 1000, .ref 39], σ47)) rfl ?_
      refine PW.xald (ins_s hs_22 rfl) (idx_in hb2.1 hb2.2).1 ?_
      refine PW.runsS hs_22 rfl 4 (q := (834, [some (.ref 1000), some (.ref 0), some (.ref 39), some (.int x3)], [.int (xs (Int32.toNatClampNeg (x3 + 1))), .ref 39], σ47)) (q' := (838, [some (.ref 1000), some (.ref 0), some (.ref 39), some (.int x3)], [.int (x3 + 2), .ref 1000, .int (xs (Int32.toNatClampNeg (x3 + 1))), .ref 39], σ47)) rfl ?_
      refine PW.xald (ins_s hs_22 rfl) (idx_in hb3.1 hb3.2).1 ?_
      refine PW.callV (b := 39) (vs := [.int (xs (Int32.toNatClampNeg (x3 + 1))), .int (xs (Int32.toNatClampNeg (x3 + 2)))]) (rest := []) (ins_s hs_22 rfl) rfl rfl rfl (Nat.le_of_ble_eq_true rfl) (Nat.le_of_ble_eq_true rfl) (PW.mono h ?_)
      rintro _ σ48 ⟨v48, rfl, h⟩
      show PW (some (L, xs)) 194 842 [some (.ref 1000), some (.ref 0), some (.ref 39), some (.int x3)] [.int v48] σ48 _
      refine PW.runsS hs_22 rfl 4 (q := (842, [some (.ref 1000), some (.ref 0), some (.ref 39), some (.int x3)], [.int v48], σ48)) (q' := (18, [some (.ref 1000), some (.ref 0), some (.ref 39), some (.int (x3 + 5))], [], σ48)) rfl ?_
      exact h
    replace h := (if_neg c21).mp h
    by_cases c22 : ((xs (Int32.toNatClampNeg x3)) &&& 31) = 22
    · replace h := (if_pos c22).mp h
      refine PW.tswK (k := 22) (t := 846) (ins_s hs_0 rfl) c22 (by decide) (by decide) rfl rfl ?_
      refine PW.runsS hs_23 rfl 5 (q := (846, [some (.ref 1000), some (.ref 0), some (.ref 39), some (.int x3)], [], σ)) (q' := (851, [some (.ref 1000), some (.ref 0), some (.ref 39), some (.int x3)], [.int (x3 + 1), .ref 1000, .ref 0], σ)) rfl ?_
      obtain ⟨hb2, h⟩ := h
      refine PW.xald (ins_s hs_23 rfl) (idx_in hb2.1 hb2.2).1 ?_
      refine PW.runsS hs_23 rfl 4 (q := (852, [some (.ref 1000), some (.ref 0), some (.ref 39), some (.int x3)], [.int (xs (Int32.toNatClampNeg (x3 + 1))), .ref 0], σ)) (q' := (856, [some (.ref 1000), some (.ref 0), some (.ref 39), some (.int x3)], [.int (x3 + 2), .ref 1000, .int (xs (Int32.toNatClampNeg (x3 + 1))), .ref 0], σ)) rfl ?_
      obtain ⟨hb3, h⟩ := h
      refine PW.xald (ins_s hs_23 rfl) (idx_in hb3.1 hb3.2).1 ?_
      refine PW.callV (b := 0) (vs := [.int (xs (Int32.toNatClampNeg (x3 + 1))), .int (xs (Int32.toNatClampNeg (x3 + 2)))]) (rest := []) (ins_s hs_23 rfl) rfl rfl rfl (Nat.le_of_ble_eq_true rfl) (Nat.le_of_ble_eq_true rfl) (PW.mono h ?_)
      rintro _ σ49 ⟨v49, rfl, h⟩
      show PW (some (L, xs)) 194 860 [some (.ref 1000), some (.ref 0), some (.ref 39), some (.int x3)] [.int v49] σ49 _
      refine PW.runsS hs_23 rfl 6 (q := (860, [some (.ref 1000), some (.ref 0), some (.ref 39), some (.int x3)], [.int v49], σ49)) (q' := (866, [some (.ref 1000), some (.ref 0), some (.ref 39), some (.int x3)], [.int (x3 + 1), .ref 1000, .ref 39], σ49)) rfl ?_
      refine PW.xald (ins_s hs_23 rfl) (idx_in hb2.1 hb2.2).1 ?_
      refine PW.runsS hs_23 rfl 4 (q := (867, [some (.ref 1000), some (.ref 0), some (.ref 39), some (.int x3)], [.int (xs (Int32.toNatClampNeg (x3 + 1))), .ref 39], σ49)) (q' := (871, [some (.ref 1000), some (.ref 0), some (.ref 39), some (.int x3)], [.int (x3 + 2), .ref 1000, .int (xs (Int32.toNatClampNeg (x3 + 1))), .ref 39], σ49)) rfl ?_
      refine PW.xald (ins_s hs_23 rfl) (idx_in hb3.1 hb3.2).1 ?_
      refine PW.callV (b := 39) (vs := [.int (xs (Int32.toNatClampNeg (x3 + 1))), .int (xs (Int32.toNatClampNeg (x3 + 2)))]) (rest := []) (ins_s hs_23 rfl) rfl rfl rfl (Nat.le_of_ble_eq_true rfl) (Nat.le_of_ble_eq_true rfl) (PW.mono h ?_)
      rintro _ σ50 ⟨v50, rfl, h⟩
      show PW (some (L, xs)) 194 875 [some (.ref 1000), some (.ref 0), some (.ref 39), some (.int x3)] [.int v50] σ50 _
      refine PW.runsS hs_23 rfl 4 (q := (875, [some (.ref 1000), some (.ref 0), some (.ref 39), some (.int x3)], [.int v50], σ50)) (q' := (18, [some (.ref 1000), some (.ref 0), some (.ref 39), some (.int (x3 + 5))], [], σ50)) rfl ?_
      exact h
    replace h := (if_neg c22).mp h
    by_cases c23 : ((xs (Int32.toNatClampNeg x3)) &&& 31) = 23
    · replace h := (if_pos c23).mp h
      refine PW.tswK (k := 23) (t := 879) (ins_s hs_0 rfl) c23 (by decide) (by decide) rfl rfl ?_
      refine PW.runsS hs_24 rfl 5 (q := (879, [some (.ref 1000), some (.ref 0), some (.ref 39), some (.int x3)], [], σ)) (q' := (884, [some (.ref 1000), some (.ref 0), some (.ref 39), some (.int x3)], [.int (x3 + 1), .ref 1000, .ref 0], σ)) rfl ?_
      obtain ⟨hb2, h⟩ := h
      refine PW.xald (ins_s hs_24 rfl) (idx_in hb2.1 hb2.2).1 ?_
      refine PW.runsS hs_24 rfl 4 (q := (885, [some (.ref 1000), some (.ref 0), some (.ref 39), some (.int x3)], [.int (xs (Int32.toNatClampNeg (x3 + 1))), .ref 0], σ)) (q' := (889, [some (.ref 1000), some (.ref 0), some (.ref 39), some (.int x3)], [.int (x3 + 2), .ref 1000, .int (xs (Int32.toNatClampNeg (x3 + 1))), .ref 0], σ)) rfl ?_
      obtain ⟨hb3, h⟩ := h
      refine PW.xald (ins_s hs_24 rfl) (idx_in hb3.1 hb3.2).1 ?_
      refine PW.callV (b := 0) (vs := [.int (xs (Int32.toNatClampNeg (x3 + 1))), .int (xs (Int32.toNatClampNeg (x3 + 2)))]) (rest := []) (ins_s hs_24 rfl) rfl rfl rfl (Nat.le_of_ble_eq_true rfl) (Nat.le_of_ble_eq_true rfl) (PW.mono h ?_)
      rintro _ σ51 ⟨v51, rfl, h⟩
      show PW (some (L, xs)) 194 893 [some (.ref 1000), some (.ref 0), some (.ref 39), some (.int x3)] [.int v51] σ51 _
      refine PW.runsS hs_24 rfl 6 (q := (893, [some (.ref 1000), some (.ref 0), some (.ref 39), some (.int x3)], [.int v51], σ51)) (q' := (899, [some (.ref 1000), some (.ref 0), some (.ref 39), some (.int x3)], [.int (x3 + 1), .ref 1000, .ref 39], σ51)) rfl ?_
      refine PW.xald (ins_s hs_24 rfl) (idx_in hb2.1 hb2.2).1 ?_
      refine PW.runsS hs_24 rfl 4 (q := (900, [some (.ref 1000), some (.ref 0), some (.ref 39), some (.int x3)], [.int (xs (Int32.toNatClampNeg (x3 + 1))), .ref 39], σ51)) (q' := (904, [some (.ref 1000), some (.ref 0), some (.ref 39), some (.int x3)], [.int (x3 + 2), .ref 1000, .int (xs (Int32.toNatClampNeg (x3 + 1))), .ref 39], σ51)) rfl ?_
      refine PW.xald (ins_s hs_24 rfl) (idx_in hb3.1 hb3.2).1 ?_
      refine PW.callV (b := 39) (vs := [.int (xs (Int32.toNatClampNeg (x3 + 1))), .int (xs (Int32.toNatClampNeg (x3 + 2)))]) (rest := []) (ins_s hs_24 rfl) rfl rfl rfl (Nat.le_of_ble_eq_true rfl) (Nat.le_of_ble_eq_true rfl) (PW.mono h ?_)
      rintro _ σ52 ⟨v52, rfl, h⟩
      show PW (some (L, xs)) 194 908 [some (.ref 1000), some (.ref 0), some (.ref 39), some (.int x3)] [.int v52] σ52 _
      refine PW.runsS hs_24 rfl 4 (q := (908, [some (.ref 1000), some (.ref 0), some (.ref 39), some (.int x3)], [.int v52], σ52)) (q' := (18, [some (.ref 1000), some (.ref 0), some (.ref 39), some (.int (x3 + 5))], [], σ52)) rfl ?_
      exact h
    replace h := (if_neg c23).mp h
    by_cases c24 : ((xs (Int32.toNatClampNeg x3)) &&& 31) = 24
    · replace h := (if_pos c24).mp h
      refine PW.tswK (k := 24) (t := 912) (ins_s hs_0 rfl) c24 (by decide) (by decide) rfl rfl ?_
      refine PW.runsS hs_25 rfl 5 (q := (912, [some (.ref 1000), some (.ref 0), some (.ref 39), some (.int x3)], [], σ)) (q' := (917, [some (.ref 1000), some (.ref 0), some (.ref 39), some (.int x3)], [.int (x3 + 1), .ref 1000, .ref 0], σ)) rfl ?_
      obtain ⟨hb2, h⟩ := h
      refine PW.xald (ins_s hs_25 rfl) (idx_in hb2.1 hb2.2).1 ?_
      refine PW.runsS hs_25 rfl 4 (q := (918, [some (.ref 1000), some (.ref 0), some (.ref 39), some (.int x3)], [.int (xs (Int32.toNatClampNeg (x3 + 1))), .ref 0], σ)) (q' := (922, [some (.ref 1000), some (.ref 0), some (.ref 39), some (.int x3)], [.int (x3 + 2), .ref 1000, .int (xs (Int32.toNatClampNeg (x3 + 1))), .ref 0], σ)) rfl ?_
      obtain ⟨hb3, h⟩ := h
      refine PW.xald (ins_s hs_25 rfl) (idx_in hb3.1 hb3.2).1 ?_
      refine PW.callV (b := 0) (vs := [.int (xs (Int32.toNatClampNeg (x3 + 1))), .int (xs (Int32.toNatClampNeg (x3 + 2)))]) (rest := []) (ins_s hs_25 rfl) rfl rfl rfl (Nat.le_of_ble_eq_true rfl) (Nat.le_of_ble_eq_true rfl) (PW.mono h ?_)
      rintro _ σ53 ⟨v53, rfl, h⟩
      show PW (some (L, xs)) 194 926 [some (.ref 1000), some (.ref 0), some (.ref 39), some (.int x3)] [.int v53] σ53 _
      refine PW.runsS hs_25 rfl 6 (q := (926, [some (.ref 1000), some (.ref 0), some (.ref 39), some (.int x3)], [.int v53], σ53)) (q' := (932, [some (.ref 1000), some (.ref 0), some (.ref 39), some (.int x3)], [.int (x3 + 1), .ref 1000, .ref 39], σ53)) rfl ?_
      refine PW.xald (ins_s hs_25 rfl) (idx_in hb2.1 hb2.2).1 ?_
      refine PW.runsS hs_25 rfl 4 (q := (933, [some (.ref 1000), some (.ref 0), some (.ref 39), some (.int x3)], [.int (xs (Int32.toNatClampNeg (x3 + 1))), .ref 39], σ53)) (q' := (937, [some (.ref 1000), some (.ref 0), some (.ref 39), some (.int x3)], [.int (x3 + 2), .ref 1000, .int (xs (Int32.toNatClampNeg (x3 + 1))), .ref 39], σ53)) rfl ?_
      refine PW.xald (ins_s hs_25 rfl) (idx_in hb3.1 hb3.2).1 ?_
      refine PW.callV (b := 39) (vs := [.int (xs (Int32.toNatClampNeg (x3 + 1))), .int (xs (Int32.toNatClampNeg (x3 + 2)))]) (rest := []) (ins_s hs_25 rfl) rfl rfl rfl (Nat.le_of_ble_eq_true rfl) (Nat.le_of_ble_eq_true rfl) (PW.mono h ?_)
      rintro _ σ54 ⟨v54, rfl, h⟩
      show PW (some (L, xs)) 194 941 [some (.ref 1000), some (.ref 0), some (.ref 39), some (.int x3)] [.int v54] σ54 _
      refine PW.runsS hs_25 rfl 4 (q := (941, [some (.ref 1000), some (.ref 0), some (.ref 39), some (.int x3)], [.int v54], σ54)) (q' := (18, [some (.ref 1000), some (.ref 0), some (.ref 39), some (.int (x3 + 5))], [], σ54)) rfl ?_
      exact h
    replace h := (if_neg c24).mp h
    by_cases c25 : ((xs (Int32.toNatClampNeg x3)) &&& 31) = 25
    · replace h := (if_pos c25).mp h
      refine PW.tswK (k := 25) (t := 945) (ins_s hs_0 rfl) c25 (by decide) (by decide) rfl rfl ?_
      refine PW.runsS hs_26 rfl 1 (q := (945, [some (.ref 1000), some (.ref 0), some (.ref 39), some (.int x3)], [], σ)) (q' := (946, [some (.ref 1000), some (.ref 0), some (.ref 39), some (.int x3)], [.ref 0], σ)) rfl ?_
      refine PW.callV (b := 0) (vs := []) (rest := []) (ins_s hs_26 rfl) rfl rfl rfl (Nat.le_of_ble_eq_true rfl) (Nat.le_of_ble_eq_true rfl) (PW.mono h ?_)
      rintro _ σ55 ⟨v55, rfl, h⟩
      show PW (some (L, xs)) 194 949 [some (.ref 1000), some (.ref 0), some (.ref 39), some (.int x3)] [.int v55] σ55 _
      refine PW.runsS hs_26 rfl 2 (q := (949, [some (.ref 1000), some (.ref 0), some (.ref 39), some (.int x3)], [.int v55], σ55)) (q' := (951, [some (.ref 1000), some (.ref 0), some (.ref 39), some (.int x3)], [.ref 39], σ55)) rfl ?_
      refine PW.callV (b := 39) (vs := []) (rest := []) (ins_s hs_26 rfl) rfl rfl rfl (Nat.le_of_ble_eq_true rfl) (Nat.le_of_ble_eq_true rfl) (PW.mono h ?_)
      rintro _ σ56 ⟨v56, rfl, h⟩
      show PW (some (L, xs)) 194 954 [some (.ref 1000), some (.ref 0), some (.ref 39), some (.int x3)] [.int v56] σ56 _
      refine PW.runsS hs_26 rfl 4 (q := (954, [some (.ref 1000), some (.ref 0), some (.ref 39), some (.int x3)], [.int v56], σ56)) (q' := (18, [some (.ref 1000), some (.ref 0), some (.ref 39), some (.int (x3 + 5))], [], σ56)) rfl ?_
      exact h
    replace h := (if_neg c25).mp h
    by_cases c26 : ((xs (Int32.toNatClampNeg x3)) &&& 31) = 26
    · replace h := (if_pos c26).mp h
      refine PW.tswK (k := 26) (t := 958) (ins_s hs_0 rfl) c26 (by decide) (by decide) rfl rfl ?_
      refine PW.runsS hs_27 rfl 1 (q := (958, [some (.ref 1000), some (.ref 0), some (.ref 39), some (.int x3)], [], σ)) (q' := (959, [some (.ref 1000), some (.ref 0), some (.ref 39), some (.int x3)], [.ref 0], σ)) rfl ?_
      refine PW.callV (b := 0) (vs := []) (rest := []) (ins_s hs_27 rfl) rfl rfl rfl (Nat.le_of_ble_eq_true rfl) (Nat.le_of_ble_eq_true rfl) (PW.mono h ?_)
      rintro _ σ57 ⟨v57, rfl, h⟩
      show PW (some (L, xs)) 194 962 [some (.ref 1000), some (.ref 0), some (.ref 39), some (.int x3)] [.int v57] σ57 _
      refine PW.runsS hs_27 rfl 2 (q := (962, [some (.ref 1000), some (.ref 0), some (.ref 39), some (.int x3)], [.int v57], σ57)) (q' := (964, [some (.ref 1000), some (.ref 0), some (.ref 39), some (.int x3)], [.ref 39], σ57)) rfl ?_
      refine PW.callV (b := 39) (vs := []) (rest := []) (ins_s hs_27 rfl) rfl rfl rfl (Nat.le_of_ble_eq_true rfl) (Nat.le_of_ble_eq_true rfl) (PW.mono h ?_)
      rintro _ σ58 ⟨v58, rfl, h⟩
      show PW (some (L, xs)) 194 967 [some (.ref 1000), some (.ref 0), some (.ref 39), some (.int x3)] [.int v58] σ58 _
      refine PW.runsS hs_27 rfl 4 (q := (967, [some (.ref 1000), some (.ref 0), some (.ref 39), some (.int x3)], [.int v58], σ58)) (q' := (18, [some (.ref 1000), some (.ref 0), some (.ref 39), some (.int (x3 + 5))], [], σ58)) rfl ?_
      exact h
    replace h := (if_neg c26).mp h
    by_cases c27 : ((xs (Int32.toNatClampNeg x3)) &&& 31) = 27
    · replace h := (if_pos c27).mp h
      refine PW.tswK (k := 27) (t := 971) (ins_s hs_0 rfl) c27 (by decide) (by decide) rfl rfl ?_
      refine PW.runsS hs_28 rfl 5 (q := (971, [some (.ref 1000), some (.ref 0), some (.ref 39), some (.int x3)], [], σ)) (q' := (976, [some (.ref 1000), some (.ref 0), some (.ref 39), some (.int x3)], [.int (x3 + 1), .ref 1000, .ref 0], σ)) rfl ?_
      obtain ⟨hb2, h⟩ := h
      refine PW.xald (ins_s hs_28 rfl) (idx_in hb2.1 hb2.2).1 ?_
      refine PW.callV (b := 0) (vs := [.int (xs (Int32.toNatClampNeg (x3 + 1)))]) (rest := []) (ins_s hs_28 rfl) rfl rfl rfl (Nat.le_of_ble_eq_true rfl) (Nat.le_of_ble_eq_true rfl) (PW.mono h ?_)
      rintro _ σ59 ⟨v59, rfl, h⟩
      show PW (some (L, xs)) 194 980 [some (.ref 1000), some (.ref 0), some (.ref 39), some (.int x3)] [.int v59] σ59 _
      refine PW.runsS hs_28 rfl 6 (q := (980, [some (.ref 1000), some (.ref 0), some (.ref 39), some (.int x3)], [.int v59], σ59)) (q' := (986, [some (.ref 1000), some (.ref 0), some (.ref 39), some (.int x3)], [.int (x3 + 1), .ref 1000, .ref 39], σ59)) rfl ?_
      refine PW.xald (ins_s hs_28 rfl) (idx_in hb2.1 hb2.2).1 ?_
      refine PW.callV (b := 39) (vs := [.int (xs (Int32.toNatClampNeg (x3 + 1)))]) (rest := []) (ins_s hs_28 rfl) rfl rfl rfl (Nat.le_of_ble_eq_true rfl) (Nat.le_of_ble_eq_true rfl) (PW.mono h ?_)
      rintro _ σ60 ⟨v60, rfl, h⟩
      show PW (some (L, xs)) 194 990 [some (.ref 1000), some (.ref 0), some (.ref 39), some (.int x3)] [.int v60] σ60 _
      refine PW.runsS hs_28 rfl 4 (q := (990, [some (.ref 1000), some (.ref 0), some (.ref 39), some (.int x3)], [.int v60], σ60)) (q' := (18, [some (.ref 1000), some (.ref 0), some (.ref 39), some (.int (x3 + 5))], [], σ60)) rfl ?_
      exact h
    replace h := (if_neg c27).mp h
    by_cases c28 : ((xs (Int32.toNatClampNeg x3)) &&& 31) = 28
    · replace h := (if_pos c28).mp h
      refine PW.tswK (k := 28) (t := 994) (ins_s hs_0 rfl) c28 (by decide) (by decide) rfl rfl ?_
      refine PW.runsS hs_29 rfl 5 (q := (994, [some (.ref 1000), some (.ref 0), some (.ref 39), some (.int x3)], [], σ)) (q' := (999, [some (.ref 1000), some (.ref 0), some (.ref 39), some (.int x3)], [.int (x3 + 1), .ref 1000, .ref 0], σ)) rfl ?_
      obtain ⟨hb2, h⟩ := h
      refine PW.xald (ins_s hs_29 rfl) (idx_in hb2.1 hb2.2).1 ?_
      refine PW.callV (b := 0) (vs := [.int (xs (Int32.toNatClampNeg (x3 + 1)))]) (rest := []) (ins_s hs_29 rfl) rfl rfl rfl (Nat.le_of_ble_eq_true rfl) (Nat.le_of_ble_eq_true rfl) (PW.mono h ?_)
      rintro _ σ61 ⟨v61, rfl, h⟩
      show PW (some (L, xs)) 194 1003 [some (.ref 1000), some (.ref 0), some (.ref 39), some (.int x3)] [.int v61] σ61 _
      refine PW.runsS hs_29 rfl 6 (q := (1003, [some (.ref 1000), some (.ref 0), some (.ref 39), some (.int x3)], [.int v61], σ61)) (q' := (1009, [some (.ref 1000), some (.ref 0), some (.ref 39), some (.int x3)], [.int (x3 + 1), .ref 1000, .ref 39], σ61)) rfl ?_
      refine PW.xald (ins_s hs_29 rfl) (idx_in hb2.1 hb2.2).1 ?_
      refine PW.callV (b := 39) (vs := [.int (xs (Int32.toNatClampNeg (x3 + 1)))]) (rest := []) (ins_s hs_29 rfl) rfl rfl rfl (Nat.le_of_ble_eq_true rfl) (Nat.le_of_ble_eq_true rfl) (PW.mono h ?_)
      rintro _ σ62 ⟨v62, rfl, h⟩
      show PW (some (L, xs)) 194 1013 [some (.ref 1000), some (.ref 0), some (.ref 39), some (.int x3)] [.int v62] σ62 _
      refine PW.runsS hs_29 rfl 4 (q := (1013, [some (.ref 1000), some (.ref 0), some (.ref 39), some (.int x3)], [.int v62], σ62)) (q' := (18, [some (.ref 1000), some (.ref 0), some (.ref 39), some (.int (x3 + 5))], [], σ62)) rfl ?_
      exact h
    replace h := (if_neg c28).mp h
    by_cases c29 : ((xs (Int32.toNatClampNeg x3)) &&& 31) = 29
    · replace h := (if_pos c29).mp h
      refine PW.tswK (k := 29) (t := 1017) (ins_s hs_0 rfl) c29 (by decide) (by decide) rfl rfl ?_
      refine PW.runsS hs_30 rfl 5 (q := (1017, [some (.ref 1000), some (.ref 0), some (.ref 39), some (.int x3)], [], σ)) (q' := (1022, [some (.ref 1000), some (.ref 0), some (.ref 39), some (.int x3)], [.int (x3 + 1), .ref 1000, .ref 0], σ)) rfl ?_
      obtain ⟨hb2, h⟩ := h
      refine PW.xald (ins_s hs_30 rfl) (idx_in hb2.1 hb2.2).1 ?_
      refine PW.callV (b := 0) (vs := [.int (xs (Int32.toNatClampNeg (x3 + 1)))]) (rest := []) (ins_s hs_30 rfl) rfl rfl rfl (Nat.le_of_ble_eq_true rfl) (Nat.le_of_ble_eq_true rfl) (PW.mono h ?_)
      rintro _ σ63 ⟨v63, rfl, h⟩
      show PW (some (L, xs)) 194 1026 [some (.ref 1000), some (.ref 0), some (.ref 39), some (.int x3)] [.int v63] σ63 _
      refine PW.runsS hs_30 rfl 6 (q := (1026, [some (.ref 1000), some (.ref 0), some (.ref 39), some (.int x3)], [.int v63], σ63)) (q' := (1032, [some (.ref 1000), some (.ref 0), some (.ref 39), some (.int x3)], [.int (x3 + 1), .ref 1000, .ref 39], σ63)) rfl ?_
      refine PW.xald (ins_s hs_30 rfl) (idx_in hb2.1 hb2.2).1 ?_
      refine PW.callV (b := 39) (vs := [.int (xs (Int32.toNatClampNeg (x3 + 1)))]) (rest := []) (ins_s hs_30 rfl) rfl rfl rfl (Nat.le_of_ble_eq_true rfl) (Nat.le_of_ble_eq_true rfl) (PW.mono h ?_)
      rintro _ σ64 ⟨v64, rfl, h⟩
      show PW (some (L, xs)) 194 1036 [some (.ref 1000), some (.ref 0), some (.ref 39), some (.int x3)] [.int v64] σ64 _
      refine PW.runsS hs_30 rfl 4 (q := (1036, [some (.ref 1000), some (.ref 0), some (.ref 39), some (.int x3)], [.int v64], σ64)) (q' := (18, [some (.ref 1000), some (.ref 0), some (.ref 39), some (.int (x3 + 5))], [], σ64)) rfl ?_
      exact h
    replace h := (if_neg c29).mp h
    have hD : PL L xs 1040 [some (.ref 1000), some (.ref 0), some (.ref 39), some (.int x3)] [] σ := by
      refine PW.runsS hs_0 rfl 2 (q := (1040, [some (.ref 1000), some (.ref 0), some (.ref 39), some (.int x3)], [], σ)) (q' := (18, [some (.ref 1000), some (.ref 0), some (.ref 39), some (.int (x3 + 5))], [], σ)) rfl ?_
      exact h
    refine PW.tswD (t := 1040) (ins_s hs_0 rfl) ?_ rfl hD
    have zc0 := tne c0 (k := 0) rfl
    have zc1 := tne c1 (k := 1) rfl
    have zc2 := tne c2 (k := 2) rfl
    have zc3 := tne c3 (k := 3) rfl
    have zc4 := tne c4 (k := 4) rfl
    have zc5 := tne c5 (k := 5) rfl
    have zc6 := tne c6 (k := 6) rfl
    have zc7 := tne c7 (k := 7) rfl
    have zc8 := tne c8 (k := 8) rfl
    have zc9 := tne c9 (k := 9) rfl
    have zc10 := tne c10 (k := 10) rfl
    have zc11 := tne c11 (k := 11) rfl
    have zc12 := tne c12 (k := 12) rfl
    have zc13 := tne c13 (k := 13) rfl
    have zc14 := tne c14 (k := 14) rfl
    have zc15 := tne c15 (k := 15) rfl
    have zc16 := tne c16 (k := 16) rfl
    have zc17 := tne c17 (k := 17) rfl
    have zc18 := tne c18 (k := 18) rfl
    have zc19 := tne c19 (k := 19) rfl
    have zc20 := tne c20 (k := 20) rfl
    have zc21 := tne c21 (k := 21) rfl
    have zc22 := tne c22 (k := 22) rfl
    have zc23 := tne c23 (k := 23) rfl
    have zc24 := tne c24 (k := 24) rfl
    have zc25 := tne c25 (k := 25) rfl
    have zc26 := tne c26 (k := 26) rfl
    have zc27 := tne c27 (k := 27) rfl
    have zc28 := tne c28 (k := 28) rfl
    have zc29 := tne c29 (k := 29) rfl
    omega
theorem i_b {L i : Nat} (h : i + 5 ≤ L) (hL : L ≤ 320) {k : Int32} (h1 : 0 ≤ k.toInt) (h2 : k.toInt < 5) : 0 ≤ (Int32.ofNat i + k).toInt ∧ (Int32.ofNat i + k).toInt < (L : Int) := by
  rw [ti_add (by rw [ti_of (by omega)]; omega) (by rw [ti_of (by omega)]; omega), ti_of (by omega)]
  omega
theorem i_5 {i : Nat} (h : i ≤ 320) : Int32.ofNat i + 5 = Int32.ofNat (i + 5) := by
  have l5 : (5 : Int32).toInt = 5 := rfl
  refine ti_inj ?_
  rw [ti_add (by rw [ti_of (by omega), l5]; omega) (by rw [ti_of (by omega), l5]; omega), ti_of (by omega), ti_of (by omega), l5]
  omega
theorem FrM.wk {md : List (Nat × Nat)} {am : List Nat} {σ σ' : St} (h : FrM [] [] σ σ') : FrM md am σ σ' := fun k j _ _ => h k j rfl rfl
theorem keep2 {a : Int32} {σ : St} (hI : Inv σ) : CI 189 [.ref 39, .int a] σ (fun _ σ' => Inv σ' ∧ FrM [(39, 32)] [61, 62] σ σ') := by
  have r := ti_r a
  by_cases c : a.toInt < 0
  · exact (CI.con sat_141 rfl rfl (by decide +kernel) (by exact ⟨rfl, ⟨a, rfl, by dsimp only; omega, by dsimp only; omega⟩, trivial⟩) hI).imp fun v σ' h => ⟨h.1, FrM.wk h.2⟩
  · by_cases c2 : a.toInt ≤ 1
    · exact CI.con sat_139 rfl rfl (by decide +kernel) (by exact ⟨rfl, ⟨a, rfl, by dsimp only; omega, by dsimp only; omega⟩, trivial⟩) hI
    · exact (CI.con sat_142 rfl rfl (by decide +kernel) (by exact ⟨rfl, ⟨a, rfl, by dsimp only; omega, by dsimp only; omega⟩, trivial⟩) hI).imp fun v σ' h => ⟨h.1, FrM.wk h.2⟩
set_option maxRecDepth 20000 in
theorem law_l {L : Nat} {xs : Nat → Int32} (hL : L ≤ 320) : ∀ (d i : Nat) {σ : St}, L < i + d → i ≤ 325 → J3 σ → PL L xs 18 [some (.ref 1000), some (.ref 0), some (.ref 39), some (.int (Int32.ofNat i))] [] σ := by
  have l5 : (5 : Int32).toInt = 5 := rfl
  have e5 : (Int32.ofNat L - 5).toInt = (L : Int) - 5 := by rw [ti_sub (by rw [ti_of (by omega), l5]; omega) (by rw [ti_of (by omega), l5]; omega), ti_of (by omega), l5]
  intro d
  induction d with
  | zero =>
    intro i σ hi h325 hJ
    refine w_law ?_
    rw [if_pos (by rw [Int32.lt_iff_toInt_lt, e5, ti_of (by omega)]; omega)]
    trivial
  | succ d ih =>
    intro i σ hi h325 hJ
    refine w_law ?_
    by_cases hc : (L : Int) - 5 < i
    · rw [if_pos (by rw [Int32.lt_iff_toInt_lt, e5, ti_of (by omega)]; omega)]
      trivial
    · rw [if_neg (by rw [Int32.lt_iff_toInt_lt, e5, ti_of (by omega)]; omega)]
      have hb : i + 5 ≤ L := by omega
      have nx : ∀ σ', J3 σ' → PL L xs 18 [some (.ref 1000), some (.ref 0), some (.ref 39), some (.int (Int32.ofNat i + 5))] [] σ' := fun σ' J' => by
        rw [i_5 (by omega)]
        exact ih (i + 5) (by omega) (by omega) J'
      have bx : ∀ k : Int32, 0 ≤ k.toInt → k.toInt < 5 → 0 ≤ (Int32.ofNat i + k).toInt ∧ (Int32.ofNat i + k).toInt < (L : Int) := fun k h1 h2 => i_b hb hL h1 h2
      refine ⟨by rw [ti_of (by omega)]; omega, ?_⟩
      refine dite ((xs (Int32.toNatClampNeg (Int32.ofNat i)) &&& 31) = 0) (fun c => (if_pos c).mpr ?_) (fun c => (if_neg c).mpr ?_)
      · refine ⟨bx 1 (by decide) (by decide), ?_⟩
        exact ag3 (ag_lift hJ.1 (fun h => ag_feed sat_53 sat_113 rfl rfl rfl rfl rfl rfl (by exact ⟨rfl, aI (by decide) (by decide), trivial⟩) (by exact ⟨rfl, aI (by decide) (by decide), trivial⟩) hJ.1.1 h) (CI.con sat_53 rfl rfl (by decide +kernel) (by exact ⟨rfl, aI (by decide) (by decide), trivial⟩) hJ.1.1.1) (fun σ1 I1 => CI.con sat_113 rfl rfl (by decide +kernel) (by exact ⟨rfl, aI (by decide) (by decide), trivial⟩) I1) (by decide +kernel) (by decide +kernel) (K := fun v1 v2 σ' => v2 = v1 ∧ J2 D1 σ') (fun _ _ h => ⟨rfl, h⟩)) (bx_2 (bx_c hJ.2.1 (CI.con sat_53 rfl rfl (by decide +kernel) (by exact ⟨rfl, aI (by decide) (by decide), trivial⟩) hJ.1.1.1) (by decide +kernel)) (CI.con sat_53 rfl rfl (by decide +kernel) (by exact ⟨rfl, aI (by decide) (by decide), trivial⟩) hJ.1.1.1) (fun σ1 I1 => CI.con sat_113 rfl rfl (by decide +kernel) (by exact ⟨rfl, aI (by decide) (by decide), trivial⟩) I1) (by decide +kernel)) (bk_2 hJ.2.2 (CI.con sat_53 rfl rfl (by decide +kernel) (by exact ⟨rfl, aI (by decide) (by decide), trivial⟩) hJ.1.1.1) (fun σ1 I1 => CI.con sat_113 rfl rfl (by decide +kernel) (by exact ⟨rfl, aI (by decide) (by decide), trivial⟩) I1) (by decide +kernel) (by decide +kernel)) (fun v σ' J' => by first | exact nx σ' J' | (rw [if_pos rfl]; exact nx σ' J'))
      refine dite ((xs (Int32.toNatClampNeg (Int32.ofNat i)) &&& 31) = 1) (fun c => (if_pos c).mpr ?_) (fun c => (if_neg c).mpr ?_)
      · show _
        exact ag3 (ag_survey2 HD1 sat_54 sat_91 rfl rfl rfl rfl rfl rfl (by exact ⟨rfl, trivial⟩) (by exact ⟨rfl, trivial⟩) hJ.1 (K := fun v1 v2 σ' => v2 = v1 ∧ J2 D1 σ') (fun _ _ h => ⟨rfl, h⟩)) (ag_imp (bxk_survey hJ ((CI.con sat_54 rfl rfl (by decide +kernel) (by exact ⟨rfl, trivial⟩) hJ.1.1.1).imp fun _ _ h => h.1)) fun _ _ _ h => h.1) (ag_imp (bxk_survey hJ ((CI.con sat_54 rfl rfl (by decide +kernel) (by exact ⟨rfl, trivial⟩) hJ.1.1.1).imp fun _ _ h => h.1)) fun _ _ _ h => h.2) (fun v σ' J' => by first | exact nx σ' J' | (rw [if_pos rfl]; exact nx σ' J'))
      refine dite ((xs (Int32.toNatClampNeg (Int32.ofNat i)) &&& 31) = 2) (fun c => (if_pos c).mpr ?_) (fun c => (if_neg c).mpr ?_)
      · show _
        exact ag3 (ag_lift hJ.1 (fun h => ag_fault hJ.1.1 h) (CI.con sat_55 rfl rfl (by decide +kernel) (by exact ⟨rfl, trivial⟩) hJ.1.1.1) (fun σ1 I1 => CI.con sat_92 rfl rfl (by decide +kernel) (by exact ⟨rfl, trivial⟩) I1) (by decide +kernel) (by decide +kernel) (K := fun v1 v2 σ' => v2 = v1 ∧ J2 D1 σ') (fun _ _ h => ⟨rfl, h⟩)) (bx_2 (bx_c hJ.2.1 (CI.con sat_55 rfl rfl (by decide +kernel) (by exact ⟨rfl, trivial⟩) hJ.1.1.1) (by decide +kernel)) (CI.con sat_55 rfl rfl (by decide +kernel) (by exact ⟨rfl, trivial⟩) hJ.1.1.1) (fun σ1 I1 => CI.con sat_92 rfl rfl (by decide +kernel) (by exact ⟨rfl, trivial⟩) I1) (by decide +kernel)) (bk_2 hJ.2.2 (CI.con sat_55 rfl rfl (by decide +kernel) (by exact ⟨rfl, trivial⟩) hJ.1.1.1) (fun σ1 I1 => CI.con sat_92 rfl rfl (by decide +kernel) (by exact ⟨rfl, trivial⟩) I1) (by decide +kernel) (by decide +kernel)) (fun v σ' J' => by first | exact nx σ' J' | (rw [if_pos rfl]; exact nx σ' J'))
      refine dite ((xs (Int32.toNatClampNeg (Int32.ofNat i)) &&& 31) = 3) (fun c => (if_pos c).mpr ?_) (fun c => (if_neg c).mpr ?_)
      · refine ⟨bx 1 (by decide) (by decide), ?_⟩
        exact J3_call sat_56 rfl rfl (by decide +kernel) (by decide +kernel) (by decide +kernel) (by decide +kernel) (by decide +kernel) (by exact ⟨rfl, aI (by decide) (by decide), trivial⟩) hJ fun v1 σ1 J1 => J3_call sat_114 rfl rfl (by decide +kernel) (by decide +kernel) (by decide +kernel) (by decide +kernel) (by decide +kernel) (by exact ⟨rfl, aI (by decide) (by decide), trivial⟩) J1 fun v2 σ2 J2 => nx σ2 J2
      refine dite ((xs (Int32.toNatClampNeg (Int32.ofNat i)) &&& 31) = 4) (fun c => (if_pos c).mpr ?_) (fun c => (if_neg c).mpr ?_)
      · refine ⟨bx 1 (by decide) (by decide), bx 2 (by decide) (by decide), ?_⟩
        exact J3_call sat_57 rfl rfl (by decide +kernel) (by decide +kernel) (by decide +kernel) (by decide +kernel) (by decide +kernel) (by exact ⟨rfl, aI (by decide) (by decide), aI (by decide) (by decide), trivial⟩) hJ fun v1 σ1 J1 => J3_call sat_115 rfl rfl (by decide +kernel) (by decide +kernel) (by decide +kernel) (by decide +kernel) (by decide +kernel) (by exact ⟨rfl, aI (by decide) (by decide), aI (by decide) (by decide), trivial⟩) J1 fun v2 σ2 J2 => nx σ2 J2
      refine dite ((xs (Int32.toNatClampNeg (Int32.ofNat i)) &&& 31) = 5) (fun c => (if_pos c).mpr ?_) (fun c => (if_neg c).mpr ?_)
      · refine ⟨bx 1 (by decide) (by decide), bx 2 (by decide) (by decide), ?_⟩
        exact J3_call sat_58 rfl rfl (by decide +kernel) (by decide +kernel) (by decide +kernel) (by decide +kernel) (by decide +kernel) (by exact ⟨rfl, aI (by decide) (by decide), aI (by decide) (by decide), trivial⟩) hJ fun v1 σ1 J1 => J3_call sat_116 rfl rfl (by decide +kernel) (by decide +kernel) (by decide +kernel) (by decide +kernel) (by decide +kernel) (by exact ⟨rfl, aI (by decide) (by decide), aI (by decide) (by decide), trivial⟩) J1 fun v2 σ2 J2 => nx σ2 J2
      refine dite ((xs (Int32.toNatClampNeg (Int32.ofNat i)) &&& 31) = 6) (fun c => (if_pos c).mpr ?_) (fun c => (if_neg c).mpr ?_)
      · refine ⟨bx 1 (by decide) (by decide), bx 2 (by decide) (by decide), bx 3 (by decide) (by decide), ?_⟩
        split
        · exact ag3 (ag_draw HD1 hJ.1 ((CI.con sat_59 rfl rfl (by decide +kernel) (by exact ⟨rfl, aI (by decide) (by decide), aI (by decide) (by decide), aI (by decide) (by decide), trivial⟩) hJ.1.1.1).imp fun v σ' h => ⟨h.1, J_fr (okB_ok (by decide +kernel)) h.2 hJ.1.1.2⟩) (fun σ1 J1 => (CI.con sat_117 rfl rfl (by decide +kernel) (by exact ⟨rfl, aI (by decide) (by decide), aI (by decide) (by decide), aI (by decide) (by decide), trivial⟩) J1.1).imp fun v σ' h => ⟨h.1, J_fr (okB_ok (by decide +kernel)) h.2 J1.2⟩) (K := fun v1 v2 σ' => v2 = v1 ∧ J2 D1 σ') (fun _ _ h => ⟨rfl, h⟩)) (bx_2 (bx_draw hJ) (CI.con sat_59 rfl rfl (by decide +kernel) (by exact ⟨rfl, aI (by decide) (by decide), aI (by decide) (by decide), aI (by decide) (by decide), trivial⟩) hJ.1.1.1) (fun σ1 I1 => CI.con sat_117 rfl rfl (by decide +kernel) (by exact ⟨rfl, aI (by decide) (by decide), aI (by decide) (by decide), aI (by decide) (by decide), trivial⟩) I1) (by decide +kernel)) (bk_2 hJ.2.2 (CI.con sat_59 rfl rfl (by decide +kernel) (by exact ⟨rfl, aI (by decide) (by decide), aI (by decide) (by decide), aI (by decide) (by decide), trivial⟩) hJ.1.1.1) (fun σ1 I1 => CI.con sat_117 rfl rfl (by decide +kernel) (by exact ⟨rfl, aI (by decide) (by decide), aI (by decide) (by decide), aI (by decide) (by decide), trivial⟩) I1) (by decide +kernel) (by decide +kernel)) (fun v σ' J' => by first | exact nx σ' J' | (rw [if_pos rfl]; exact nx σ' J'))
        · exact ag3 (ag_draw HD1 hJ.1 ((CI.con sat_59 rfl rfl (by decide +kernel) (by exact ⟨rfl, aI (by decide) (by decide), aI (by decide) (by decide), aI (by decide) (by decide), trivial⟩) hJ.1.1.1).imp fun v σ' h => ⟨h.1, J_fr (okB_ok (by decide +kernel)) h.2 hJ.1.1.2⟩) (fun σ1 J1 => (CI.con sat_117 rfl rfl (by decide +kernel) (by exact ⟨rfl, aI (by decide) (by decide), aI (by decide) (by decide), aI (by decide) (by decide), trivial⟩) J1.1).imp fun v σ' h => ⟨h.1, J_fr (okB_ok (by decide +kernel)) h.2 J1.2⟩) (K := fun v1 v2 σ' => v2 = v1 ∧ J2 D1 σ') (fun _ _ h => ⟨rfl, h⟩)) (bx_2 (bx_draw hJ) (CI.con sat_59 rfl rfl (by decide +kernel) (by exact ⟨rfl, aI (by decide) (by decide), aI (by decide) (by decide), aI (by decide) (by decide), trivial⟩) hJ.1.1.1) (fun σ1 I1 => CI.con sat_117 rfl rfl (by decide +kernel) (by exact ⟨rfl, aI (by decide) (by decide), aI (by decide) (by decide), aI (by decide) (by decide), trivial⟩) I1) (by decide +kernel)) (bk_2 hJ.2.2 (CI.con sat_59 rfl rfl (by decide +kernel) (by exact ⟨rfl, aI (by decide) (by decide), aI (by decide) (by decide), aI (by decide) (by decide), trivial⟩) hJ.1.1.1) (fun σ1 I1 => CI.con sat_117 rfl rfl (by decide +kernel) (by exact ⟨rfl, aI (by decide) (by decide), aI (by decide) (by decide), aI (by decide) (by decide), trivial⟩) I1) (by decide +kernel) (by decide +kernel)) (fun v σ' J' => by first | exact nx σ' J' | (rw [if_pos rfl]; exact nx σ' J'))
      refine dite ((xs (Int32.toNatClampNeg (Int32.ofNat i)) &&& 31) = 7) (fun c => (if_pos c).mpr ?_) (fun c => (if_neg c).mpr ?_)
      · refine ⟨bx 1 (by decide) (by decide), bx 2 (by decide) (by decide), ?_⟩
        split
        · exact ag3 (ag_move HD1 hJ.1 ((CI.con sat_60 rfl rfl (by decide +kernel) (by exact ⟨rfl, aI (by decide) (by decide), aI (by decide) (by decide), trivial⟩) hJ.1.1.1).imp fun v σ' h => ⟨h.1, J_fr (okB_ok (by decide +kernel)) h.2 hJ.1.1.2⟩) (fun σ1 J1 => (CI.con sat_118 rfl rfl (by decide +kernel) (by exact ⟨rfl, aI (by decide) (by decide), aI (by decide) (by decide), trivial⟩) J1.1).imp fun v σ' h => ⟨h.1, J_fr (okB_ok (by decide +kernel)) h.2 J1.2⟩) (K := fun v1 v2 σ' => v2 = v1 ∧ J2 D1 σ') (fun _ _ h => ⟨rfl, h⟩)) (bx_2 (bx_move hJ) (CI.con sat_60 rfl rfl (by decide +kernel) (by exact ⟨rfl, aI (by decide) (by decide), aI (by decide) (by decide), trivial⟩) hJ.1.1.1) (fun σ1 I1 => CI.con sat_118 rfl rfl (by decide +kernel) (by exact ⟨rfl, aI (by decide) (by decide), aI (by decide) (by decide), trivial⟩) I1) (by decide +kernel)) (bk_2 hJ.2.2 (CI.con sat_60 rfl rfl (by decide +kernel) (by exact ⟨rfl, aI (by decide) (by decide), aI (by decide) (by decide), trivial⟩) hJ.1.1.1) (fun σ1 I1 => CI.con sat_118 rfl rfl (by decide +kernel) (by exact ⟨rfl, aI (by decide) (by decide), aI (by decide) (by decide), trivial⟩) I1) (by decide +kernel) (by decide +kernel)) (fun v σ' J' => by first | exact nx σ' J' | (rw [if_pos rfl]; exact nx σ' J'))
        · exact ag3 (ag_move HD1 hJ.1 ((CI.con sat_60 rfl rfl (by decide +kernel) (by exact ⟨rfl, aI (by decide) (by decide), aI (by decide) (by decide), trivial⟩) hJ.1.1.1).imp fun v σ' h => ⟨h.1, J_fr (okB_ok (by decide +kernel)) h.2 hJ.1.1.2⟩) (fun σ1 J1 => (CI.con sat_118 rfl rfl (by decide +kernel) (by exact ⟨rfl, aI (by decide) (by decide), aI (by decide) (by decide), trivial⟩) J1.1).imp fun v σ' h => ⟨h.1, J_fr (okB_ok (by decide +kernel)) h.2 J1.2⟩) (K := fun v1 v2 σ' => v2 = v1 ∧ J2 D1 σ') (fun _ _ h => ⟨rfl, h⟩)) (bx_2 (bx_move hJ) (CI.con sat_60 rfl rfl (by decide +kernel) (by exact ⟨rfl, aI (by decide) (by decide), aI (by decide) (by decide), trivial⟩) hJ.1.1.1) (fun σ1 I1 => CI.con sat_118 rfl rfl (by decide +kernel) (by exact ⟨rfl, aI (by decide) (by decide), aI (by decide) (by decide), trivial⟩) I1) (by decide +kernel)) (bk_2 hJ.2.2 (CI.con sat_60 rfl rfl (by decide +kernel) (by exact ⟨rfl, aI (by decide) (by decide), aI (by decide) (by decide), trivial⟩) hJ.1.1.1) (fun σ1 I1 => CI.con sat_118 rfl rfl (by decide +kernel) (by exact ⟨rfl, aI (by decide) (by decide), aI (by decide) (by decide), trivial⟩) I1) (by decide +kernel) (by decide +kernel)) (fun v σ' J' => by first | exact nx σ' J' | (rw [if_pos rfl]; exact nx σ' J'))
      refine dite ((xs (Int32.toNatClampNeg (Int32.ofNat i)) &&& 31) = 8) (fun c => (if_pos c).mpr ?_) (fun c => (if_neg c).mpr ?_)
      · refine ⟨bx 1 (by decide) (by decide), bx 2 (by decide) (by decide), ?_⟩
        exact ag3 (ag_copy HD1 hJ.1 ((CI.con sat_61 rfl rfl (by decide +kernel) (by exact ⟨rfl, aI (by decide) (by decide), aI (by decide) (by decide), trivial⟩) hJ.1.1.1).imp fun v σ' h => ⟨h.1, J_fr (okB_ok (by decide +kernel)) h.2 hJ.1.1.2⟩) (fun σ1 J1 => (CI.con sat_119 rfl rfl (by decide +kernel) (by exact ⟨rfl, aI (by decide) (by decide), aI (by decide) (by decide), trivial⟩) J1.1).imp fun v σ' h => ⟨h.1, J_fr (okB_ok (by decide +kernel)) h.2 J1.2⟩) (K := fun v1 v2 σ' => v2 = v1 ∧ J2 D1 σ') (fun _ _ h => ⟨rfl, h⟩)) (bx_2 (bx_copy hJ) (CI.con sat_61 rfl rfl (by decide +kernel) (by exact ⟨rfl, aI (by decide) (by decide), aI (by decide) (by decide), trivial⟩) hJ.1.1.1) (fun σ1 I1 => CI.con sat_119 rfl rfl (by decide +kernel) (by exact ⟨rfl, aI (by decide) (by decide), aI (by decide) (by decide), trivial⟩) I1) (by decide +kernel)) (bk_2 hJ.2.2 (CI.con sat_61 rfl rfl (by decide +kernel) (by exact ⟨rfl, aI (by decide) (by decide), aI (by decide) (by decide), trivial⟩) hJ.1.1.1) (fun σ1 I1 => CI.con sat_119 rfl rfl (by decide +kernel) (by exact ⟨rfl, aI (by decide) (by decide), aI (by decide) (by decide), trivial⟩) I1) (by decide +kernel) (by decide +kernel)) (fun v σ' J' => by first | exact nx σ' J' | (rw [if_pos rfl]; exact nx σ' J'))
      refine dite ((xs (Int32.toNatClampNeg (Int32.ofNat i)) &&& 31) = 9) (fun c => (if_pos c).mpr ?_) (fun c => (if_neg c).mpr ?_)
      · refine ⟨bx 1 (by decide) (by decide), ?_⟩
        exact ag3o (ag_assess1 hJ ((CI.con sat_62 rfl rfl (by decide +kernel) (by exact ⟨rfl, aI (by decide) (by decide), trivial⟩) hJ.1.1.1).imp fun v σ' h => ⟨h.1, J_fr (okB_ok (by decide +kernel)) h.2 hJ.1.1.2⟩) (fun σ1 J1 => (CI.con sat_120 rfl rfl (by decide +kernel) (by exact ⟨rfl, aI (by decide) (by decide), trivial⟩) J1.1).imp fun v σ' h => ⟨h.1, J_fr (okB_ok (by decide +kernel)) h.2 J1.2⟩)) (bk_2 hJ.2.2 (CI.con sat_62 rfl rfl (by decide +kernel) (by exact ⟨rfl, aI (by decide) (by decide), trivial⟩) hJ.1.1.1) (fun σ1 I1 => CI.con sat_120 rfl rfl (by decide +kernel) (by exact ⟨rfl, aI (by decide) (by decide), trivial⟩) I1) (by decide +kernel) (by decide +kernel)) (fun v σ' J' => by first | exact nx σ' J' | (rw [if_pos rfl]; exact nx σ' J'))
      refine dite ((xs (Int32.toNatClampNeg (Int32.ofNat i)) &&& 31) = 10) (fun c => (if_pos c).mpr ?_) (fun c => (if_neg c).mpr ?_)
      · refine ⟨bx 1 (by decide) (by decide), bx 2 (by decide) (by decide), ?_⟩
        exact ag3o (ag_inspect1 hJ ((CI.con sat_63 rfl rfl (by decide +kernel) (by exact ⟨rfl, aI (by decide) (by decide), aI (by decide) (by decide), trivial⟩) hJ.1.1.1).imp fun v σ' h => ⟨h.1, J_fr (okB_ok (by decide +kernel)) h.2 hJ.1.1.2⟩) (fun σ1 J1 => (CI.con sat_121 rfl rfl (by decide +kernel) (by exact ⟨rfl, aI (by decide) (by decide), aI (by decide) (by decide), trivial⟩) J1.1).imp fun v σ' h => ⟨h.1, J_fr (okB_ok (by decide +kernel)) h.2 J1.2⟩)) (bk_2 hJ.2.2 (CI.con sat_63 rfl rfl (by decide +kernel) (by exact ⟨rfl, aI (by decide) (by decide), aI (by decide) (by decide), trivial⟩) hJ.1.1.1) (fun σ1 I1 => CI.con sat_121 rfl rfl (by decide +kernel) (by exact ⟨rfl, aI (by decide) (by decide), aI (by decide) (by decide), trivial⟩) I1) (by decide +kernel) (by decide +kernel)) (fun v σ' J' => by first | exact nx σ' J' | (rw [if_pos rfl]; exact nx σ' J'))
      refine dite ((xs (Int32.toNatClampNeg (Int32.ofNat i)) &&& 31) = 11) (fun c => (if_pos c).mpr ?_) (fun c => (if_neg c).mpr ?_)
      · refine ⟨bx 1 (by decide) (by decide), bx 2 (by decide) (by decide), bx 3 (by decide) (by decide), ?_⟩
        exact ag3o (ag_walk1 hJ ((CI.con sat_64 rfl rfl (by decide +kernel) (by exact ⟨rfl, aI (by decide) (by decide), aI (by decide) (by decide), aI (by decide) (by decide), trivial⟩) hJ.1.1.1).imp fun v σ' h => ⟨h.1, J_fr (okB_ok (by decide +kernel)) h.2 hJ.1.1.2⟩) (fun σ1 J1 => (CI.con sat_122 rfl rfl (by decide +kernel) (by exact ⟨rfl, aI (by decide) (by decide), aI (by decide) (by decide), aI (by decide) (by decide), trivial⟩) J1.1).imp fun v σ' h => ⟨h.1, J_fr (okB_ok (by decide +kernel)) h.2 J1.2⟩)) (bk_2 hJ.2.2 (CI.con sat_64 rfl rfl (by decide +kernel) (by exact ⟨rfl, aI (by decide) (by decide), aI (by decide) (by decide), aI (by decide) (by decide), trivial⟩) hJ.1.1.1) (fun σ1 I1 => CI.con sat_122 rfl rfl (by decide +kernel) (by exact ⟨rfl, aI (by decide) (by decide), aI (by decide) (by decide), aI (by decide) (by decide), trivial⟩) I1) (by decide +kernel) (by decide +kernel)) (fun v σ' J' => by first | exact nx σ' J' | (rw [if_pos rfl]; exact nx σ' J'))
      refine dite ((xs (Int32.toNatClampNeg (Int32.ofNat i)) &&& 31) = 12) (fun c => (if_pos c).mpr ?_) (fun c => (if_neg c).mpr ?_)
      · refine ⟨bx 1 (by decide) (by decide), ?_⟩
        exact ag3o (ag_day1 hJ ((CI.con sat_65 rfl rfl (by decide +kernel) (by exact ⟨rfl, aI (by decide) (by decide), trivial⟩) hJ.1.1.1).imp fun v σ' h => ⟨h.1, J_fr (okB_ok (by decide +kernel)) h.2 hJ.1.1.2⟩) (fun σ1 J1 => (CI.con sat_123 rfl rfl (by decide +kernel) (by exact ⟨rfl, aI (by decide) (by decide), trivial⟩) J1.1).imp fun v σ' h => ⟨h.1, J_fr (okB_ok (by decide +kernel)) h.2 J1.2⟩)) (bk_2 hJ.2.2 (CI.con sat_65 rfl rfl (by decide +kernel) (by exact ⟨rfl, aI (by decide) (by decide), trivial⟩) hJ.1.1.1) (fun σ1 I1 => CI.con sat_123 rfl rfl (by decide +kernel) (by exact ⟨rfl, aI (by decide) (by decide), trivial⟩) I1) (by decide +kernel) (by decide +kernel)) (fun v σ' J' => by first | exact nx σ' J' | (rw [if_pos rfl]; exact nx σ' J'))
      refine dite ((xs (Int32.toNatClampNeg (Int32.ofNat i)) &&& 31) = 13) (fun c => (if_pos c).mpr ?_) (fun c => (if_neg c).mpr ?_)
      · refine ⟨bx 1 (by decide) (by decide), ?_⟩
        exact ag3o (ag_drift1 hJ ((CI.con sat_66 rfl rfl (by decide +kernel) (by exact ⟨rfl, aI (by decide) (by decide), trivial⟩) hJ.1.1.1).imp fun v σ' h => ⟨h.1, J_fr (okB_ok (by decide +kernel)) h.2 hJ.1.1.2⟩) (fun σ1 J1 => (CI.con sat_124 rfl rfl (by decide +kernel) (by exact ⟨rfl, aI (by decide) (by decide), trivial⟩) J1.1).imp fun v σ' h => ⟨h.1, J_fr (okB_ok (by decide +kernel)) h.2 J1.2⟩)) (bk_2 hJ.2.2 (CI.con sat_66 rfl rfl (by decide +kernel) (by exact ⟨rfl, aI (by decide) (by decide), trivial⟩) hJ.1.1.1) (fun σ1 I1 => CI.con sat_124 rfl rfl (by decide +kernel) (by exact ⟨rfl, aI (by decide) (by decide), trivial⟩) I1) (by decide +kernel) (by decide +kernel)) (fun v σ' J' => by first | exact nx σ' J' | (rw [if_pos rfl]; exact nx σ' J'))
      refine dite ((xs (Int32.toNatClampNeg (Int32.ofNat i)) &&& 31) = 14) (fun c => (if_pos c).mpr ?_) (fun c => (if_neg c).mpr ?_)
      · show _
        exact ag3 (ag_undo HD1 hJ.1 ((CI.con sat_67 rfl rfl (by decide +kernel) (by exact ⟨rfl, trivial⟩) hJ.1.1.1).imp fun v σ' h => ⟨h.1, J_fr (okB_ok (by decide +kernel)) h.2 hJ.1.1.2⟩) (fun σ1 J1 => (CI.con sat_125 rfl rfl (by decide +kernel) (by exact ⟨rfl, trivial⟩) J1.1).imp fun v σ' h => ⟨h.1, J_fr (okB_ok (by decide +kernel)) h.2 J1.2⟩) (K := fun v1 v2 σ' => v2 = v1 ∧ J2 D1 σ') (fun _ _ h => ⟨rfl, h⟩)) (bx_2 (bx_undo hJ) (CI.con sat_67 rfl rfl (by decide +kernel) (by exact ⟨rfl, trivial⟩) hJ.1.1.1) (fun σ1 I1 => CI.con sat_125 rfl rfl (by decide +kernel) (by exact ⟨rfl, trivial⟩) I1) (by decide +kernel)) (bk_2 hJ.2.2 (CI.con sat_67 rfl rfl (by decide +kernel) (by exact ⟨rfl, trivial⟩) hJ.1.1.1) (fun σ1 I1 => CI.con sat_125 rfl rfl (by decide +kernel) (by exact ⟨rfl, trivial⟩) I1) (by decide +kernel) (by decide +kernel)) (fun v σ' J' => by first | exact nx σ' J' | (rw [if_pos rfl]; exact nx σ' J'))
      refine dite ((xs (Int32.toNatClampNeg (Int32.ofNat i)) &&& 31) = 15) (fun c => (if_pos c).mpr ?_) (fun c => (if_neg c).mpr ?_)
      · refine ⟨bx 1 (by decide) (by decide), bx 2 (by decide) (by decide), bx 3 (by decide) (by decide), bx 4 (by decide) (by decide), ?_⟩
        exact J3_call sat_68 rfl rfl (by decide +kernel) (by decide +kernel) (by decide +kernel) (by decide +kernel) (by decide +kernel) (by exact ⟨rfl, aI (by decide) (by decide), aI (by decide) (by decide), aI (by decide) (by decide), aI (by decide) (by decide), trivial⟩) hJ fun v1 σ1 J1 => J3_call sat_126 rfl rfl (by decide +kernel) (by decide +kernel) (by decide +kernel) (by decide +kernel) (by decide +kernel) (by exact ⟨rfl, aI (by decide) (by decide), aI (by decide) (by decide), aI (by decide) (by decide), aI (by decide) (by decide), trivial⟩) J1 fun v2 σ2 J2 => nx σ2 J2
      refine dite ((xs (Int32.toNatClampNeg (Int32.ofNat i)) &&& 31) = 16) (fun c => (if_pos c).mpr ?_) (fun c => (if_neg c).mpr ?_)
      · refine ⟨bx 1 (by decide) (by decide), bx 2 (by decide) (by decide), ?_⟩
        exact J3_call sat_69 rfl rfl (by decide +kernel) (by decide +kernel) (by decide +kernel) (by decide +kernel) (by decide +kernel) (by exact ⟨rfl, aI (by decide) (by decide), aI (by decide) (by decide), trivial⟩) hJ fun v1 σ1 J1 => J3_call sat_127 rfl rfl (by decide +kernel) (by decide +kernel) (by decide +kernel) (by decide +kernel) (by decide +kernel) (by exact ⟨rfl, aI (by decide) (by decide), aI (by decide) (by decide), trivial⟩) J1 fun v2 σ2 J2 => nx σ2 J2
      refine dite ((xs (Int32.toNatClampNeg (Int32.ofNat i)) &&& 31) = 17) (fun c => (if_pos c).mpr ?_) (fun c => (if_neg c).mpr ?_)
      · refine ⟨bx 1 (by decide) (by decide), bx 2 (by decide) (by decide), ?_⟩
        exact ag_rd3 hJ (eq_lands hJ) (CI.con sat_70 rfl rfl (by decide +kernel) (by exact ⟨rfl, aI (by decide) (by decide), aI (by decide) (by decide), trivial⟩) hJ.1.1.1) (fun σ1 I1 => CI.con sat_128 rfl rfl (by decide +kernel) (by exact ⟨rfl, aI (by decide) (by decide), aI (by decide) (by decide), trivial⟩) I1) (by decide +kernel) (by decide +kernel) (by decide +kernel) (by decide +kernel) (by decide +kernel) (by decide +kernel) (by decide +kernel) (by decide +kernel) (fun v σ' J' => by first | exact nx σ' J' | (rw [if_pos rfl]; exact nx σ' J'))
      refine dite ((xs (Int32.toNatClampNeg (Int32.ofNat i)) &&& 31) = 18) (fun c => (if_pos c).mpr ?_) (fun c => (if_neg c).mpr ?_)
      · refine ⟨bx 1 (by decide) (by decide), bx 2 (by decide) (by decide), ?_⟩
        exact J3_call sat_71 rfl rfl (by decide +kernel) (by decide +kernel) (by decide +kernel) (by decide +kernel) (by decide +kernel) (by exact ⟨rfl, aI (by decide) (by decide), aI (by decide) (by decide), trivial⟩) hJ fun v1 σ1 J1 => J3_call sat_129 rfl rfl (by decide +kernel) (by decide +kernel) (by decide +kernel) (by decide +kernel) (by decide +kernel) (by exact ⟨rfl, aI (by decide) (by decide), aI (by decide) (by decide), trivial⟩) J1 fun v2 σ2 J2 => nx σ2 J2
      refine dite ((xs (Int32.toNatClampNeg (Int32.ofNat i)) &&& 31) = 19) (fun c => (if_pos c).mpr ?_) (fun c => (if_neg c).mpr ?_)
      · refine ⟨bx 1 (by decide) (by decide), bx 2 (by decide) (by decide), ?_⟩
        exact J3_call sat_72 rfl rfl (by decide +kernel) (by decide +kernel) (by decide +kernel) (by decide +kernel) (by decide +kernel) (by exact ⟨rfl, aI (by decide) (by decide), aI (by decide) (by decide), trivial⟩) hJ fun v1 σ1 J1 => J3_call sat_130 rfl rfl (by decide +kernel) (by decide +kernel) (by decide +kernel) (by decide +kernel) (by decide +kernel) (by exact ⟨rfl, aI (by decide) (by decide), aI (by decide) (by decide), trivial⟩) J1 fun v2 σ2 J2 => nx σ2 J2
      refine dite ((xs (Int32.toNatClampNeg (Int32.ofNat i)) &&& 31) = 20) (fun c => (if_pos c).mpr ?_) (fun c => (if_neg c).mpr ?_)
      · refine ⟨bx 1 (by decide) (by decide), ?_⟩
        exact J3_call sat_73 rfl rfl (by decide +kernel) (by decide +kernel) (by decide +kernel) (by decide +kernel) (by decide +kernel) (by exact ⟨rfl, aI (by decide) (by decide), trivial⟩) hJ fun v1 σ1 J1 => J3_call sat_131 rfl rfl (by decide +kernel) (by decide +kernel) (by decide +kernel) (by decide +kernel) (by decide +kernel) (by exact ⟨rfl, aI (by decide) (by decide), trivial⟩) J1 fun v2 σ2 J2 => nx σ2 J2
      refine dite ((xs (Int32.toNatClampNeg (Int32.ofNat i)) &&& 31) = 21) (fun c => (if_pos c).mpr ?_) (fun c => (if_neg c).mpr ?_)
      · refine ⟨bx 1 (by decide) (by decide), bx 2 (by decide) (by decide), ?_⟩
        exact J3_call sat_74 rfl rfl (by decide +kernel) (by decide +kernel) (by decide +kernel) (by decide +kernel) (by decide +kernel) (by exact ⟨rfl, aI (by decide) (by decide), aI (by decide) (by decide), trivial⟩) hJ fun v1 σ1 J1 => J3_call sat_132 rfl rfl (by decide +kernel) (by decide +kernel) (by decide +kernel) (by decide +kernel) (by decide +kernel) (by exact ⟨rfl, aI (by decide) (by decide), aI (by decide) (by decide), trivial⟩) J1 fun v2 σ2 J2 => nx σ2 J2
      refine dite ((xs (Int32.toNatClampNeg (Int32.ofNat i)) &&& 31) = 22) (fun c => (if_pos c).mpr ?_) (fun c => (if_neg c).mpr ?_)
      · refine ⟨bx 1 (by decide) (by decide), bx 2 (by decide) (by decide), ?_⟩
        exact J3_call sat_75 rfl rfl (by decide +kernel) (by decide +kernel) (by decide +kernel) (by decide +kernel) (by decide +kernel) (by exact ⟨rfl, aI (by decide) (by decide), aI (by decide) (by decide), trivial⟩) hJ fun v1 σ1 J1 => J3_call sat_133 rfl rfl (by decide +kernel) (by decide +kernel) (by decide +kernel) (by decide +kernel) (by decide +kernel) (by exact ⟨rfl, aI (by decide) (by decide), aI (by decide) (by decide), trivial⟩) J1 fun v2 σ2 J2 => nx σ2 J2
      refine dite ((xs (Int32.toNatClampNeg (Int32.ofNat i)) &&& 31) = 23) (fun c => (if_pos c).mpr ?_) (fun c => (if_neg c).mpr ?_)
      · refine ⟨bx 1 (by decide) (by decide), bx 2 (by decide) (by decide), ?_⟩
        exact ag3 (ag_lift hJ.1 (fun h => ag_journey hJ.1.1 (CI.con sat_76 rfl rfl (by decide +kernel) (by exact ⟨rfl, aI (by decide) (by decide), aI (by decide) (by decide), trivial⟩) hJ.1.1.1) (fun σ1 I1 => CI.con sat_134 rfl rfl (by decide +kernel) (by exact ⟨rfl, aI (by decide) (by decide), aI (by decide) (by decide), trivial⟩) I1) h) (CI.con sat_76 rfl rfl (by decide +kernel) (by exact ⟨rfl, aI (by decide) (by decide), aI (by decide) (by decide), trivial⟩) hJ.1.1.1) (fun σ1 I1 => CI.con sat_134 rfl rfl (by decide +kernel) (by exact ⟨rfl, aI (by decide) (by decide), aI (by decide) (by decide), trivial⟩) I1) (by decide +kernel) (by decide +kernel) (K := fun v1 v2 σ' => v2 = v1 ∧ J2 D1 σ') (fun _ _ h => ⟨rfl, h⟩)) (bx_2 (bx_c hJ.2.1 (CI.con sat_76 rfl rfl (by decide +kernel) (by exact ⟨rfl, aI (by decide) (by decide), aI (by decide) (by decide), trivial⟩) hJ.1.1.1) (by decide +kernel)) (CI.con sat_76 rfl rfl (by decide +kernel) (by exact ⟨rfl, aI (by decide) (by decide), aI (by decide) (by decide), trivial⟩) hJ.1.1.1) (fun σ1 I1 => CI.con sat_134 rfl rfl (by decide +kernel) (by exact ⟨rfl, aI (by decide) (by decide), aI (by decide) (by decide), trivial⟩) I1) (by decide +kernel)) (bk_journey hJ) (fun v σ' J' => by first | exact nx σ' J' | (rw [if_pos rfl]; exact nx σ' J'))
      refine dite ((xs (Int32.toNatClampNeg (Int32.ofNat i)) &&& 31) = 24) (fun c => (if_pos c).mpr ?_) (fun c => (if_neg c).mpr ?_)
      · refine ⟨bx 1 (by decide) (by decide), bx 2 (by decide) (by decide), ?_⟩
        exact ag3 (ag_lift hJ.1 (fun h => ag_write hJ.1.1 (CI.con sat_77 rfl rfl (by decide +kernel) (by exact ⟨rfl, aI (by decide) (by decide), aI (by decide) (by decide), trivial⟩) hJ.1.1.1) (fun σ1 I1 => CI.con sat_135 rfl rfl (by decide +kernel) (by exact ⟨rfl, aI (by decide) (by decide), aI (by decide) (by decide), trivial⟩) I1) h) (CI.con sat_77 rfl rfl (by decide +kernel) (by exact ⟨rfl, aI (by decide) (by decide), aI (by decide) (by decide), trivial⟩) hJ.1.1.1) (fun σ1 I1 => CI.con sat_135 rfl rfl (by decide +kernel) (by exact ⟨rfl, aI (by decide) (by decide), aI (by decide) (by decide), trivial⟩) I1) (by decide +kernel) (by decide +kernel) (K := fun v1 v2 σ' => v2 = v1 ∧ J2 D1 σ') (fun _ _ h => ⟨rfl, h⟩)) (bx_2 (bx_c hJ.2.1 (CI.con sat_77 rfl rfl (by decide +kernel) (by exact ⟨rfl, aI (by decide) (by decide), aI (by decide) (by decide), trivial⟩) hJ.1.1.1) (by decide +kernel)) (CI.con sat_77 rfl rfl (by decide +kernel) (by exact ⟨rfl, aI (by decide) (by decide), aI (by decide) (by decide), trivial⟩) hJ.1.1.1) (fun σ1 I1 => CI.con sat_135 rfl rfl (by decide +kernel) (by exact ⟨rfl, aI (by decide) (by decide), aI (by decide) (by decide), trivial⟩) I1) (by decide +kernel)) (bk_write hJ) (fun v σ' J' => by first | exact nx σ' J' | (rw [if_pos rfl]; exact nx σ' J'))
      refine dite ((xs (Int32.toNatClampNeg (Int32.ofNat i)) &&& 31) = 25) (fun c => (if_pos c).mpr ?_) (fun c => (if_neg c).mpr ?_)
      · show _
        exact ag3 (ag_lift hJ.1 (fun h => ag_tear hJ.1.1 (CI.con sat_78 rfl rfl (by decide +kernel) (by exact ⟨rfl, trivial⟩) hJ.1.1.1) (fun σ1 I1 => CI.con sat_136 rfl rfl (by decide +kernel) (by exact ⟨rfl, trivial⟩) I1) h) (CI.con sat_78 rfl rfl (by decide +kernel) (by exact ⟨rfl, trivial⟩) hJ.1.1.1) (fun σ1 I1 => CI.con sat_136 rfl rfl (by decide +kernel) (by exact ⟨rfl, trivial⟩) I1) (by decide +kernel) (by decide +kernel) (K := fun v1 v2 σ' => v2 = v1 ∧ J2 D1 σ') (fun _ _ h => ⟨rfl, h⟩)) (bx_2 (bx_c hJ.2.1 (CI.con sat_78 rfl rfl (by decide +kernel) (by exact ⟨rfl, trivial⟩) hJ.1.1.1) (by decide +kernel)) (CI.con sat_78 rfl rfl (by decide +kernel) (by exact ⟨rfl, trivial⟩) hJ.1.1.1) (fun σ1 I1 => CI.con sat_136 rfl rfl (by decide +kernel) (by exact ⟨rfl, trivial⟩) I1) (by decide +kernel)) bk_tear (fun v σ' J' => by first | exact nx σ' J' | (rw [if_pos rfl]; exact nx σ' J'))
      refine dite ((xs (Int32.toNatClampNeg (Int32.ofNat i)) &&& 31) = 26) (fun c => (if_pos c).mpr ?_) (fun c => (if_neg c).mpr ?_)
      · show _
        exact J3_call sat_79 rfl rfl (by decide +kernel) (by decide +kernel) (by decide +kernel) (by decide +kernel) (by decide +kernel) (by exact ⟨rfl, trivial⟩) hJ fun v1 σ1 J1 => J3_call sat_137 rfl rfl (by decide +kernel) (by decide +kernel) (by decide +kernel) (by decide +kernel) (by decide +kernel) (by exact ⟨rfl, trivial⟩) J1 fun v2 σ2 J2 => nx σ2 J2
      refine dite ((xs (Int32.toNatClampNeg (Int32.ofNat i)) &&& 31) = 27) (fun c => (if_pos c).mpr ?_) (fun c => (if_neg c).mpr ?_)
      · refine ⟨bx 1 (by decide) (by decide), ?_⟩
        exact ag3 (ag_seed HD1 hJ.1 ((CI.con sat_80 rfl rfl (by decide +kernel) (by exact ⟨rfl, aI (by decide) (by decide), trivial⟩) hJ.1.1.1).imp fun v σ' h => ⟨h.1, J_fr (okB_ok (by decide +kernel)) h.2 hJ.1.1.2⟩) (fun σ1 J1 => (CI.con sat_138 rfl rfl (by decide +kernel) (by exact ⟨rfl, aI (by decide) (by decide), trivial⟩) J1.1).imp fun v σ' h => ⟨h.1, J_fr (okB_ok (by decide +kernel)) h.2 J1.2⟩) (K := fun v1 v2 σ' => v2 = v1 ∧ J2 D1 σ') (fun _ _ h => ⟨rfl, h⟩)) (bx_2 (bx_c hJ.2.1 (CI.con sat_80 rfl rfl (by decide +kernel) (by exact ⟨rfl, aI (by decide) (by decide), trivial⟩) hJ.1.1.1) (by decide +kernel)) (CI.con sat_80 rfl rfl (by decide +kernel) (by exact ⟨rfl, aI (by decide) (by decide), trivial⟩) hJ.1.1.1) (fun σ1 I1 => CI.con sat_138 rfl rfl (by decide +kernel) (by exact ⟨rfl, aI (by decide) (by decide), trivial⟩) I1) (by decide +kernel)) (bk_2 hJ.2.2 (CI.con sat_80 rfl rfl (by decide +kernel) (by exact ⟨rfl, aI (by decide) (by decide), trivial⟩) hJ.1.1.1) (fun σ1 I1 => CI.con sat_138 rfl rfl (by decide +kernel) (by exact ⟨rfl, aI (by decide) (by decide), trivial⟩) I1) (by decide +kernel) (by decide +kernel)) (fun v σ' J' => by first | exact nx σ' J' | (rw [if_pos rfl]; exact nx σ' J'))
      refine dite ((xs (Int32.toNatClampNeg (Int32.ofNat i)) &&& 31) = 28) (fun c => (if_pos c).mpr ?_) (fun c => (if_neg c).mpr ?_)
      · refine ⟨bx 1 (by decide) (by decide), ?_⟩
        exact ag3 (ag_keep2 HD1 hJ.1 (CI.con sat_81 rfl rfl (by decide +kernel) (by exact ⟨rfl, aI (by decide) (by decide), trivial⟩) hJ.1.1.1) (fun σ1 I1 => keep2 I1) (K := fun v1 v2 σ' => v2 = v1 ∧ J2 D1 σ') (fun _ _ h => ⟨rfl, h⟩)) (bx_keep hJ) (bk_2 hJ.2.2 (CI.con sat_81 rfl rfl (by decide +kernel) (by exact ⟨rfl, aI (by decide) (by decide), trivial⟩) hJ.1.1.1) (fun σ1 I1 => keep2 I1) (by decide +kernel) (by decide +kernel)) (fun v σ' J' => by first | exact nx σ' J' | (rw [if_pos rfl]; exact nx σ' J'))
      refine dite ((xs (Int32.toNatClampNeg (Int32.ofNat i)) &&& 31) = 29) (fun c => (if_pos c).mpr ?_) (fun c => (if_neg c).mpr ?_)
      · refine ⟨bx 1 (by decide) (by decide), ?_⟩
        exact ag3 (ag_goBack2 HD1 hJ.1 ((CI.con sat_82 rfl rfl (by decide +kernel) (by exact ⟨rfl, aI (by decide) (by decide), trivial⟩) hJ.1.1.1).imp fun v σ' h => ⟨h.1, J_fr (okB_ok (by decide +kernel)) h.2 hJ.1.1.2⟩) (fun σ1 J1 => (CI.con sat_140 rfl rfl (by decide +kernel) (by exact ⟨rfl, aI (by decide) (by decide), trivial⟩) J1.1).imp fun v σ' h => ⟨h.1, J_fr (okB_ok (by decide +kernel)) h.2 J1.2⟩) (K := fun v1 v2 σ' => v2 = v1 ∧ J2 D1 σ') (fun _ _ h => ⟨rfl, h⟩)) (bx_2 (bx_goBack hJ) (CI.con sat_82 rfl rfl (by decide +kernel) (by exact ⟨rfl, aI (by decide) (by decide), trivial⟩) hJ.1.1.1) (fun σ1 I1 => CI.con sat_140 rfl rfl (by decide +kernel) (by exact ⟨rfl, aI (by decide) (by decide), trivial⟩) I1) (by decide +kernel)) (bk_2 hJ.2.2 (CI.con sat_82 rfl rfl (by decide +kernel) (by exact ⟨rfl, aI (by decide) (by decide), trivial⟩) hJ.1.1.1) (fun σ1 I1 => CI.con sat_140 rfl rfl (by decide +kernel) (by exact ⟨rfl, aI (by decide) (by decide), trivial⟩) I1) (by decide +kernel) (by decide +kernel)) (fun v σ' J' => by first | exact nx σ' J' | (rw [if_pos rfl]; exact nx σ' J'))
      exact nx σ hJ
theorem law_pw {L : Nat} {xs : Nat → Int32} (hL : L ≤ 320) {σ0 : St} (hJ : J3 σ0) : PW (some (L, xs)) 194 18 [some (.ref 1000), some (.ref 0), some (.ref 39), some (.int 0)] [] σ0 (fun r _ => r = some (.int 1)) := law_l hL (L + 1) 0 (by omega) (by omega) hJ
