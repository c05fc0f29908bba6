/-! the model's constructor -/
def wdU (k : Nat) : Nat → Int32 := fun i => if i < k then wdB.getD i 0 else 0
theorem wdU_0 : wdU 0 = fun _ => 0 := by funext i; unfold wdU; rw [if_neg (Nat.not_lt_zero _)]
theorem wdU_up {k : Nat} {y z : Int32} (hy : y.toNatClampNeg = k) (hz : vp_nar .byte z = wdB.getD k 0) : upd (wdU k) y.toNatClampNeg (vp_nar .byte z) = wdU (k + 1) := by
  rw [hy, hz]
  funext i
  unfold upd wdU
  by_cases e : i = k
  · subst e; simp
  · by_cases c : i < k
    · simp [e, c]; omega
    · simp [e, c]; omega
abbrev cj149_0 : List (Nat × Instr × Nat) := [(0, .aload_n 0, 1), (1, .invokespecial 14, 3), (4, .aload_n 0, 1), (5, .bipush 7, 2), (7, .newarray .int, 2), (9, .putfield 7, 3), (12, .aload_n 0, 1), (13, .sipush 4968, 3), (16, .newarray .int, 2), (18, .putfield 20, 3), (21, .aload_n 0, 1), (22, .sipush 9936, 3), (25, .newarray .int, 2), (27, .putfield 23, 3), (30, .aload_n 0, 1), (31, .iconst 2, 1), (32, .newarray .boolean, 2), (34, .putfield 26, 3), (37, .aload_n 0, 1), (38, .bipush 64, 2), (40, .newarray .byte, 2), (42, .dup, 1), (43, .iconst 0, 1), (44, .bipush 110, 2), (46, .bastore, 1), (47, .dup, 1), (48, .iconst 1, 1), (49, .bipush 101, 2), (51, .bastore, 1), (52, .dup, 1), (53, .iconst 2, 1), (54, .bipush 101, 2), (56, .bastore, 1), (57, .dup, 1), (58, .iconst 3, 1), (59, .bipush 100, 2)]
theorem ck149_0 : cj149_0.all (dx 149) = true := by decide +kernel
abbrev cj149_1 : List (Nat × Instr × Nat) := [(61, .bastore, 1), (62, .dup, 1), (63, .iconst 4, 1), (64, .bipush 115, 2), (66, .bastore, 1), (67, .dup, 1), (68, .iconst 5, 1), (69, .bipush 32, 2), (71, .bastore, 1), (72, .dup, 1), (73, .bipush 6, 2), (75, .bipush 98, 2), (77, .bastore, 1), (78, .dup, 1), (79, .bipush 7, 2), (81, .bipush 111, 2), (83, .bastore, 1), (84, .dup, 1), (85, .bipush 8, 2), (87, .bipush 117, 2), (89, .bastore, 1), (90, .dup, 1), (91, .bipush 9, 2), (93, .bipush 110, 2), (95, .bastore, 1), (96, .dup, 1), (97, .bipush 10, 2), (99, .bipush 100, 2), (101, .bastore, 1), (102, .dup, 1), (103, .bipush 11, 2), (105, .bipush 32, 2), (107, .bastore, 1), (108, .dup, 1), (109, .bipush 12, 2), (111, .bipush 105, 2)]
theorem ck149_1 : cj149_1.all (dx 149) = true := by decide +kernel
abbrev cj149_2 : List (Nat × Instr × Nat) := [(113, .bastore, 1), (114, .dup, 1), (115, .bipush 13, 2), (117, .bipush 102, 2), (119, .bastore, 1), (120, .dup, 1), (121, .bipush 14, 2), (123, .bipush 32, 2), (125, .bastore, 1), (126, .dup, 1), (127, .bipush 15, 2), (129, .bipush 111, 2), (131, .bastore, 1), (132, .dup, 1), (133, .bipush 16, 2), (135, .bipush 114, 2), (137, .bastore, 1), (138, .dup, 1), (139, .bipush 17, 2), (141, .bipush 32, 2), (143, .bastore, 1), (144, .dup, 1), (145, .bipush 18, 2), (147, .bipush 97, 2), (149, .bastore, 1), (150, .dup, 1), (151, .bipush 19, 2), (153, .bipush 110, 2), (155, .bastore, 1), (156, .dup, 1), (157, .bipush 20, 2), (159, .bipush 100, 2), (161, .bastore, 1), (162, .dup, 1), (163, .bipush 21, 2), (165, .bipush 32, 2)]
theorem ck149_2 : cj149_2.all (dx 149) = true := by decide +kernel
abbrev cj149_3 : List (Nat × Instr × Nat) := [(167, .bastore, 1), (168, .dup, 1), (169, .bipush 22, 2), (171, .bipush 110, 2), (173, .bastore, 1), (174, .dup, 1), (175, .bipush 23, 2), (177, .bipush 111, 2), (179, .bastore, 1), (180, .dup, 1), (181, .bipush 24, 2), (183, .bipush 116, 2), (185, .bastore, 1), (186, .dup, 1), (187, .bipush 25, 2), (189, .bipush 32, 2), (191, .bastore, 1), (192, .dup, 1), (193, .bipush 26, 2), (195, .bipush 115, 2), (197, .bastore, 1), (198, .dup, 1), (199, .bipush 27, 2), (201, .bipush 116, 2), (203, .bastore, 1), (204, .dup, 1), (205, .bipush 28, 2), (207, .bipush 111, 2), (209, .bastore, 1), (210, .dup, 1), (211, .bipush 29, 2), (213, .bipush 110, 2), (215, .bastore, 1), (216, .dup, 1), (217, .bipush 30, 2), (219, .bipush 101, 2)]
theorem ck149_3 : cj149_3.all (dx 149) = true := by decide +kernel
abbrev cj149_4 : List (Nat × Instr × Nat) := [(221, .bastore, 1), (222, .dup, 1), (223, .bipush 31, 2), (225, .bipush 32, 2), (227, .bastore, 1), (228, .dup, 1), (229, .bipush 32, 2), (231, .bipush 120, 2), (233, .bastore, 1), (234, .dup, 1), (235, .bipush 33, 2), (237, .bipush 32, 2), (239, .bastore, 1), (240, .dup, 1), (241, .bipush 34, 2), (243, .bipush 121, 2), (245, .bastore, 1), (246, .dup, 1), (247, .bipush 35, 2), (249, .bipush 32, 2), (251, .bastore, 1), (252, .dup, 1), (253, .bipush 36, 2), (255, .bipush 119, 2), (257, .bastore, 1), (258, .dup, 1), (259, .bipush 37, 2), (261, .bipush 105, 2), (263, .bastore, 1), (264, .dup, 1), (265, .bipush 38, 2), (267, .bipush 100, 2), (269, .bastore, 1), (270, .dup, 1), (271, .bipush 39, 2), (273, .bipush 101, 2)]
theorem ck149_4 : cj149_4.all (dx 149) = true := by decide +kernel
abbrev cj149_5 : List (Nat × Instr × Nat) := [(275, .bastore, 1), (276, .dup, 1), (277, .bipush 40, 2), (279, .bipush 32, 2), (281, .bastore, 1), (282, .dup, 1), (283, .bipush 41, 2), (285, .bipush 116, 2), (287, .bastore, 1), (288, .dup, 1), (289, .bipush 42, 2), (291, .bipush 97, 2), (293, .bastore, 1), (294, .dup, 1), (295, .bipush 43, 2), (297, .bipush 108, 2), (299, .bastore, 1), (300, .dup, 1), (301, .bipush 44, 2), (303, .bipush 108, 2), (305, .bastore, 1), (306, .dup, 1), (307, .bipush 45, 2), (309, .bipush 32, 2), (311, .bastore, 1), (312, .dup, 1), (313, .bipush 46, 2), (315, .bipush 119, 2), (317, .bastore, 1), (318, .dup, 1), (319, .bipush 47, 2), (321, .bipush 101, 2), (323, .bastore, 1), (324, .dup, 1), (325, .bipush 48, 2), (327, .bipush 105, 2)]
theorem ck149_5 : cj149_5.all (dx 149) = true := by decide +kernel
abbrev cj149_6 : List (Nat × Instr × Nat) := [(329, .bastore, 1), (330, .dup, 1), (331, .bipush 49, 2), (333, .bipush 103, 2), (335, .bastore, 1), (336, .dup, 1), (337, .bipush 50, 2), (339, .bipush 104, 2), (341, .bastore, 1), (342, .dup, 1), (343, .bipush 51, 2), (345, .bipush 116, 2), (347, .bastore, 1), (348, .dup, 1), (349, .bipush 52, 2), (351, .bipush 32, 2), (353, .bastore, 1), (354, .dup, 1), (355, .bipush 53, 2), (357, .bipush 102, 2), (359, .bastore, 1), (360, .dup, 1), (361, .bipush 54, 2), (363, .bipush 97, 2), (365, .bastore, 1), (366, .dup, 1), (367, .bipush 55, 2), (369, .bipush 114, 2), (371, .bastore, 1), (372, .dup, 1), (373, .bipush 56, 2), (375, .bipush 109, 2), (377, .bastore, 1), (378, .dup, 1), (379, .bipush 57, 2), (381, .bipush 32, 2)]
theorem ck149_6 : cj149_6.all (dx 149) = true := by decide +kernel
abbrev cj149_7 : List (Nat × Instr × Nat) := [(383, .bastore, 1), (384, .dup, 1), (385, .bipush 58, 2), (387, .bipush 102, 2), (389, .bastore, 1), (390, .dup, 1), (391, .bipush 59, 2), (393, .bipush 114, 2), (395, .bastore, 1), (396, .dup, 1), (397, .bipush 60, 2), (399, .bipush 111, 2), (401, .bastore, 1), (402, .dup, 1), (403, .bipush 61, 2), (405, .bipush 115, 2), (407, .bastore, 1), (408, .dup, 1), (409, .bipush 62, 2), (411, .bipush 116, 2), (413, .bastore, 1), (414, .dup, 1), (415, .bipush 63, 2), (417, .bipush 32, 2), (419, .bastore, 1), (420, .putfield 30, 3), (423, .aload_n 0, 1), (424, .sipush 400, 3), (427, .newarray .byte, 2), (429, .putfield 34, 3), (432, .aload_n 0, 1), (433, .iconst 5, 1), (434, .newarray .int, 2), (436, .putfield 37, 3), (439, .aload_n 0, 1), (440, .iconst (-1), 1)]
theorem ck149_7 : cj149_7.all (dx 149) = true := by decide +kernel
abbrev cj149_8 : List (Nat × Instr × Nat) := [(441, .putfield 40, 3), (444, .aload_n 0, 1), (445, .sipush 401, 3), (448, .newarray .int, 2), (450, .putfield 43, 3), (453, .aload_n 0, 1), (454, .sipush 401, 3), (457, .newarray .int, 2), (459, .putfield 46, 3), (462, .aload_n 0, 1), (463, .sipush 401, 3), (466, .newarray .int, 2), (468, .putfield 49, 3), (471, .aload_n 0, 1), (472, .bipush 8, 2), (474, .newarray .int, 2), (476, .putfield 52, 3), (479, .aload_n 0, 1), (480, .bipush 22, 2), (482, .newarray .int, 2), (484, .putfield 55, 3), (487, .aload_n 0, 1), (488, .bipush 22, 2), (490, .newarray .boolean, 2), (492, .putfield 58, 3), (495, .aload_n 0, 1), (496, .bipush 22, 2), (498, .newarray .int, 2), (500, .putfield 61, 3), (503, .aload_n 0, 1), (504, .bipush 22, 2), (506, .newarray .int, 2), (508, .putfield 64, 3), (511, .aload_n 0, 1), (512, .iconst (-1), 1), (513, .putfield 67, 3)]
theorem ck149_8 : cj149_8.all (dx 149) = true := by decide +kernel
abbrev cj149_9 : List (Nat × Instr × Nat) := [(516, .aload_n 0, 1), (517, .sipush 16384, 3), (520, .newarray .boolean, 2), (522, .putfield 70, 3), (525, .aload_n 0, 1), (526, .sipush 16384, 3), (529, .newarray .int, 2), (531, .putfield 73, 3), (534, .aload_n 0, 1), (535, .sipush 16384, 3), (538, .newarray .boolean, 2), (540, .putfield 76, 3), (543, .aload_n 0, 1), (544, .sipush 16384, 3), (547, .newarray .boolean, 2), (549, .putfield 79, 3), (552, .aload_n 0, 1), (553, .iconst (-1), 1), (554, .putfield 82, 3), (557, .aload_n 0, 1), (558, .sipush 16384, 3), (561, .newarray .boolean, 2), (563, .putfield 85, 3), (566, .aload_n 0, 1), (567, .bipush 40, 2), (569, .newarray .int, 2), (571, .putfield 88, 3), (574, .aload_n 0, 1), (575, .getfield 20, 3), (578, .sipush 154, 3), (581, .iconst 5, 1), (582, .iastore, 1), (583, .aload_n 0, 1), (584, .getfield 20, 3), (587, .sipush 155, 3), (590, .iconst 2, 1)]
theorem ck149_9 : cj149_9.all (dx 149) = true := by decide +kernel
abbrev cj149_10 : List (Nat × Instr × Nat) := [(591, .iastore, 1), (592, .aload_n 0, 1), (593, .getfield 20, 3), (596, .sipush 156, 3), (599, .iconst 1, 1), (600, .iastore, 1), (601, .aload_n 0, 1), (602, .getfield 20, 3), (605, .sipush 161, 3), (608, .iconst (-1), 1), (609, .iastore, 1), (610, .return_, 1)]
theorem ck149_10 : cj149_10.all (dx 149) = true := by decide +kernel
theorem cn149 : (mcn 149 = 12 ∧ mret 149 = none ∧ (my 149).name = "<init>" ∧ mk_ok 149 = true ∧ (decide (lw_tbl[(mh 149).2.2.1]? = some (mw_inst 149)) && decide ((my 149).name = "<init>")) = true) := by decide +kernel
theorem cm149 : mmax 149 = 1 := by decide +kernel
theorem cd12 : ∀ j, j < tb_NN 12 → defaultValue (tb_ty 12 j) = vp_V [.int 0, .int 0, .null, .null, .null, .null, .int 0, .null, .null, .null, .int 0, .int 0, .null, .null, .null, .int 0, .int 0, .int 0, .int 0, .int 0, .int 0, .int 0, .null, .null, .null, .null, .null, .int 0, .null, .null, .null, .null, .int 0, .int 0, .int 0, .null, .null, .int 0, .int 0] j := by
  intro j hj
  have hj : j < 39 := hj
  have : j = 0 ∨ j = 1 ∨ j = 2 ∨ j = 3 ∨ j = 4 ∨ j = 5 ∨ j = 6 ∨ j = 7 ∨ j = 8 ∨ j = 9 ∨ j = 10 ∨ j = 11 ∨ j = 12 ∨ j = 13 ∨ j = 14 ∨ j = 15 ∨ j = 16 ∨ j = 17 ∨ j = 18 ∨ j = 19 ∨ j = 20 ∨ j = 21 ∨ j = 22 ∨ j = 23 ∨ j = 24 ∨ j = 25 ∨ j = 26 ∨ j = 27 ∨ j = 28 ∨ j = 29 ∨ j = 30 ∨ j = 31 ∨ j = 32 ∨ j = 33 ∨ j = 34 ∨ j = 35 ∨ j = 36 ∨ j = 37 ∨ j = 38 := by omega
  rcases this with rfl | rfl | rfl | rfl | rfl | rfl | rfl | rfl | rfl | rfl | rfl | rfl | rfl | rfl | rfl | rfl | rfl | rfl | rfl | rfl | rfl | rfl | rfl | rfl | rfl | rfl | rfl | rfl | rfl | rfl | rfl | rfl | rfl | rfl | rfl | rfl | rfl | rfl | rfl <;> rfl
def qt_X12 (cx : Cx) (K : Nat) (f : Nat → Nat × va_E) (io x : Nat) : Option Value → Nat → (Nat → Nat × va_E) → Prop := fun r K' f' => r = none ∧ K' = K + 21 ∧ ∃ a1 a2 a3 a4 a5 a6 a7 a8 a9 a10 a11 a12 a13 a14 a15 a16 a17 a18 a19 a20 a21, f' io = (x, .inr (12, [.int 0, .int 0, .ref a1, .ref a2, .ref a3, .ref a4, .int 0, .ref a5, .ref a6, .ref a7, .int 0, .int (-1), .ref a8, .ref a9, .ref a10, .int 0, .int 0, .int 0, .int 0, .int 0, .int 0, .int 0, .ref a11, .ref a12, .ref a13, .ref a14, .ref a15, .int (-1), .ref a16, .ref a17, .ref a18, .ref a19, .int (-1), .int 0, .int 0, .ref a20, .ref a21, .int 0, .int 0])) ∧ f' (K) = (a1, .inl (cxA cx 0, 7, .inl (fun _ => 0))) ∧ f' (K + 1) = (a2, .inl (cxA cx 0, 4968, .inl (upd (upd (upd (upd (fun _ => 0) 154 (nI 5)) 155 (nI 2)) 156 (nI 1)) 161 (-1)))) ∧ f' (K + 1 + 1) = (a3, .inl (cxA cx 0, 9936, .inl (fun _ => 0))) ∧ f' (K + 1 + 1 + 1) = (a4, .inl (cxA cx 2, 2, .inl (fun _ => 0))) ∧ f' (K + 1 + 1 + 1 + 1) = (a5, .inl (cxA cx 3, 64, .inl (wdU 64))) ∧ f' (K + 1 + 1 + 1 + 1 + 1) = (a6, .inl (cxA cx 3, 400, .inl (fun _ => 0))) ∧ f' (K + 1 + 1 + 1 + 1 + 1 + 1) = (a7, .inl (cxA cx 0, 5, .inl (fun _ => 0))) ∧ f' (K + 1 + 1 + 1 + 1 + 1 + 1 + 1) = (a8, .inl (cxA cx 0, 401, .inl (fun _ => 0))) ∧ f' (K + 1 + 1 + 1 + 1 + 1 + 1 + 1 + 1) = (a9, .inl (cxA cx 0, 401, .inl (fun _ => 0))) ∧ f' (K + 1 + 1 + 1 + 1 + 1 + 1 + 1 + 1 + 1) = (a10, .inl (cxA cx 0, 401, .inl (fun _ => 0))) ∧ f' (K + 1 + 1 + 1 + 1 + 1 + 1 + 1 + 1 + 1 + 1) = (a11, .inl (cxA cx 0, 8, .inl (fun _ => 0))) ∧ f' (K + 1 + 1 + 1 + 1 + 1 + 1 + 1 + 1 + 1 + 1 + 1) = (a12, .inl (cxA cx 0, 22, .inl (fun _ => 0))) ∧ f' (K + 1 + 1 + 1 + 1 + 1 + 1 + 1 + 1 + 1 + 1 + 1 + 1) = (a13, .inl (cxA cx 2, 22, .inl (fun _ => 0))) ∧ f' (K + 1 + 1 + 1 + 1 + 1 + 1 + 1 + 1 + 1 + 1 + 1 + 1 + 1) = (a14, .inl (cxA cx 0, 22, .inl (fun _ => 0))) ∧ f' (K + 1 + 1 + 1 + 1 + 1 + 1 + 1 + 1 + 1 + 1 + 1 + 1 + 1 + 1) = (a15, .inl (cxA cx 0, 22, .inl (fun _ => 0))) ∧ f' (K + 1 + 1 + 1 + 1 + 1 + 1 + 1 + 1 + 1 + 1 + 1 + 1 + 1 + 1 + 1) = (a16, .inl (cxA cx 2, 16384, .inl (fun _ => 0))) ∧ f' (K + 1 + 1 + 1 + 1 + 1 + 1 + 1 + 1 + 1 + 1 + 1 + 1 + 1 + 1 + 1 + 1) = (a17, .inl (cxA cx 0, 16384, .inl (fun _ => 0))) ∧ f' (K + 1 + 1 + 1 + 1 + 1 + 1 + 1 + 1 + 1 + 1 + 1 + 1 + 1 + 1 + 1 + 1 + 1) = (a18, .inl (cxA cx 2, 16384, .inl (fun _ => 0))) ∧ f' (K + 1 + 1 + 1 + 1 + 1 + 1 + 1 + 1 + 1 + 1 + 1 + 1 + 1 + 1 + 1 + 1 + 1 + 1) = (a19, .inl (cxA cx 2, 16384, .inl (fun _ => 0))) ∧ f' (K + 1 + 1 + 1 + 1 + 1 + 1 + 1 + 1 + 1 + 1 + 1 + 1 + 1 + 1 + 1 + 1 + 1 + 1 + 1) = (a20, .inl (cxA cx 2, 16384, .inl (fun _ => 0))) ∧ f' (K + 1 + 1 + 1 + 1 + 1 + 1 + 1 + 1 + 1 + 1 + 1 + 1 + 1 + 1 + 1 + 1 + 1 + 1 + 1 + 1) = (a21, .inl (cxA cx 0, 40, .inl (fun _ => 0))) ∧ ∀ i, i < K → i ≠ io → f' i = f i
theorem ct_X12 {cx : Cx} {d K : Nat} {f : Nat → Nat × va_E} {io x : Nat} (hd : 2 ≤ d) (ho : io < K) (he : f io = (x, .inr (12, [.int 0, .int 0, .null, .null, .null, .null, .int 0, .null, .null, .null, .int 0, .int 0, .null, .null, .null, .int 0, .int 0, .int 0, .int 0, .int 0, .int 0, .int 0, .null, .null, .null, .null, .null, .int 0, .null, .null, .null, .null, .int 0, .int 0, .int 0, .null, .null, .int 0, .int 0]))) : MK cx true 149 d 21 98641 [.ref x] K f (qt_X12 cx K f io x) := by
  refine mk_of cn149.2.2.2.1 (by rw [cm149]; exact Nat.le_of_ble_eq_true rfl) ?_
  refine b_aload_n (x := x) (dx_at ck149_0 0 rfl) rfl ?_
  refine b_objInit (dx_at ck149_0 1 rfl) (show lw_tbl[1085]? = _ by decide +kernel) (Nat.le_of_ble_eq_true rfl) (by omega) ?_
  refine b_aload_n (x := x) (dx_at ck149_0 2 rfl) rfl ?_
  refine b_bipush (v := nI 7) (dx_at ck149_0 3 rfl) (by decide) ?_
  refine b_newaS (t0 := 0) (N := 7) (ty := .int) (a0 := (7, .inl (fun _ => 0))) 20 98634 (dx_at ck149_0 4 rfl) (show lw_tbl[153]? = _ by decide +kernel) rfl (fun _ => rfl) (fun _ => rfl) (by decide) (by decide) (by decide) (by decide) (fun a1 => ?_)
  refine b_put2 (i := io) (fs := [.int 0, .int 0, .null, .null, .null, .null, .int 0, .null, .null, .null, .int 0, .int 0, .null, .null, .null, .int 0, .int 0, .int 0, .int 0, .int 0, .int 0, .int 0, .null, .null, .null, .null, .null, .int 0, .null, .null, .null, .null, .int 0, .int 0, .int 0, .null, .null, .int 0, .int 0]) [.int 0, .int 0, .ref a1, .null, .null, .null, .int 0, .null, .null, .null, .int 0, .int 0, .null, .null, .null, .int 0, .int 0, .int 0, .int 0, .int 0, .int 0, .int 0, .null, .null, .null, .null, .null, .int 0, .null, .null, .null, .null, .int 0, .int 0, .int 0, .null, .null, .int 0, .int 0] (dx_at ck149_0 5 rfl) (show chF 149 7 12 2 = true by decide +kernel) (by omega) ((upW_n (by omega)).trans (he)) (Or.inr ⟨rfl, cn149.2.2.1, by rw [cn149.1]; rfl⟩) rfl rfl (Nat.le_of_ble_eq_true rfl) rfl ?_
  refine b_aload_n (x := x) (dx_at ck149_0 6 rfl) rfl ?_
  refine b_sipush (v := nI 4968) (dx_at ck149_0 7 rfl) (by decide) ?_
  refine b_newaS (t0 := 0) (N := 4968) (ty := .int) (a0 := (4968, .inl (fun _ => 0))) 19 93666 (dx_at ck149_0 8 rfl) (show lw_tbl[153]? = _ by decide +kernel) rfl (fun _ => rfl) (fun _ => rfl) (by decide) (by decide) (by decide) (by decide) (fun a2 => ?_)
  refine b_put2 (i := io) (fs := [.int 0, .int 0, .ref a1, .null, .null, .null, .int 0, .null, .null, .null, .int 0, .int 0, .null, .null, .null, .int 0, .int 0, .int 0, .int 0, .int 0, .int 0, .int 0, .null, .null, .null, .null, .null, .int 0, .null, .null, .null, .null, .int 0, .int 0, .int 0, .null, .null, .int 0, .int 0]) [.int 0, .int 0, .ref a1, .ref a2, .null, .null, .int 0, .null, .null, .null, .int 0, .int 0, .null, .null, .null, .int 0, .int 0, .int 0, .int 0, .int 0, .int 0, .int 0, .null, .null, .null, .null, .null, .int 0, .null, .null, .null, .null, .int 0, .int 0, .int 0, .null, .null, .int 0, .int 0] (dx_at ck149_0 9 rfl) (show chF 149 20 12 3 = true by decide +kernel) (by omega) ((upW_n (by omega)).trans (upW_s)) (Or.inr ⟨rfl, cn149.2.2.1, by rw [cn149.1]; rfl⟩) rfl rfl (Nat.le_of_ble_eq_true rfl) rfl ?_
  refine b_aload_n (x := x) (dx_at ck149_0 10 rfl) rfl ?_
  refine b_sipush (v := nI 9936) (dx_at ck149_0 11 rfl) (by decide) ?_
  refine b_newaS (t0 := 0) (N := 9936) (ty := .int) (a0 := (9936, .inl (fun _ => 0))) 18 83730 (dx_at ck149_0 12 rfl) (show lw_tbl[153]? = _ by decide +kernel) rfl (fun _ => rfl) (fun _ => rfl) (by decide) (by decide) (by decide) (by decide) (fun a3 => ?_)
  refine b_put2 (i := io) (fs := [.int 0, .int 0, .ref a1, .ref a2, .null, .null, .int 0, .null, .null, .null, .int 0, .int 0, .null, .null, .null, .int 0, .int 0, .int 0, .int 0, .int 0, .int 0, .int 0, .null, .null, .null, .null, .null, .int 0, .null, .null, .null, .null, .int 0, .int 0, .int 0, .null, .null, .int 0, .int 0]) [.int 0, .int 0, .ref a1, .ref a2, .ref a3, .null, .int 0, .null, .null, .null, .int 0, .int 0, .null, .null, .null, .int 0, .int 0, .int 0, .int 0, .int 0, .int 0, .int 0, .null, .null, .null, .null, .null, .int 0, .null, .null, .null, .null, .int 0, .int 0, .int 0, .null, .null, .int 0, .int 0] (dx_at ck149_0 13 rfl) (show chF 149 23 12 4 = true by decide +kernel) (by omega) ((upW_n (by omega)).trans (upW_s)) (Or.inr ⟨rfl, cn149.2.2.1, by rw [cn149.1]; rfl⟩) rfl rfl (Nat.le_of_ble_eq_true rfl) rfl ?_
  refine b_aload_n (x := x) (dx_at ck149_0 14 rfl) rfl ?_
  refine b_iconst (v := nI 2) (dx_at ck149_0 15 rfl) rfl ?_
  refine b_newaS (t0 := 2) (N := 2) (ty := .boolean) (a0 := (2, .inl (fun _ => 0))) 17 83728 (dx_at ck149_0 16 rfl) (show lw_tbl[169]? = _ by decide +kernel) rfl (fun _ => rfl) (fun _ => rfl) (by decide) (by decide) (by decide) (by decide) (fun a4 => ?_)
  refine b_put2 (i := io) (fs := [.int 0, .int 0, .ref a1, .ref a2, .ref a3, .null, .int 0, .null, .null, .null, .int 0, .int 0, .null, .null, .null, .int 0, .int 0, .int 0, .int 0, .int 0, .int 0, .int 0, .null, .null, .null, .null, .null, .int 0, .null, .null, .null, .null, .int 0, .int 0, .int 0, .null, .null, .int 0, .int 0]) [.int 0, .int 0, .ref a1, .ref a2, .ref a3, .ref a4, .int 0, .null, .null, .null, .int 0, .int 0, .null, .null, .null, .int 0, .int 0, .int 0, .int 0, .int 0, .int 0, .int 0, .null, .null, .null, .null, .null, .int 0, .null, .null, .null, .null, .int 0, .int 0, .int 0, .null, .null, .int 0, .int 0] (dx_at ck149_0 17 rfl) (show chF 149 26 12 5 = true by decide +kernel) (by omega) ((upW_n (by omega)).trans (upW_s)) (Or.inr ⟨rfl, cn149.2.2.1, by rw [cn149.1]; rfl⟩) rfl rfl (Nat.le_of_ble_eq_true rfl) rfl ?_
  refine b_aload_n (x := x) (dx_at ck149_0 18 rfl) rfl ?_
  refine b_bipush (v := nI 64) (dx_at ck149_0 19 rfl) (by decide) ?_
  refine b_newaS (t0 := 3) (N := 64) (ty := .byte) (a0 := (64, .inl (wdU 0))) 16 83664 (dx_at ck149_0 20 rfl) (show lw_tbl[689]? = _ by decide +kernel) rfl (fun _ => rfl) (fun cA => by rw [wdU_0]; rfl) (by decide) (by decide) (by decide) (by decide) (fun a5 => ?_)
  refine b_dup (dx_at ck149_0 21 rfl) rfl ?_
  refine b_iconst (v := nI 0) (dx_at ck149_0 22 rfl) rfl ?_
  refine b_bipush (v := nI 110) (dx_at ck149_0 23 rfl) (by decide) ?_
  refine b_bastT (wdU 1) (dx_at ck149_0 24 rfl) (by omega) (vp_in_nI (by decide) (by decide)) (wdU_up rfl rfl) ?_
  refine b_dup (dx_at ck149_0 25 rfl) rfl ?_
  refine b_iconst (v := nI 1) (dx_at ck149_0 26 rfl) rfl ?_
  refine b_bipush (v := nI 101) (dx_at ck149_0 27 rfl) (by decide) ?_
  refine b_bastT (wdU 2) (dx_at ck149_0 28 rfl) (by omega) (vp_in_nI (by decide) (by decide)) (wdU_up rfl rfl) ?_
  refine b_dup (dx_at ck149_0 29 rfl) rfl ?_
  refine b_iconst (v := nI 2) (dx_at ck149_0 30 rfl) rfl ?_
  refine b_bipush (v := nI 101) (dx_at ck149_0 31 rfl) (by decide) ?_
  refine b_bastT (wdU 3) (dx_at ck149_0 32 rfl) (by omega) (vp_in_nI (by decide) (by decide)) (wdU_up rfl rfl) ?_
  refine b_dup (dx_at ck149_0 33 rfl) rfl ?_
  refine b_iconst (v := nI 3) (dx_at ck149_0 34 rfl) rfl ?_
  refine b_bipush (v := nI 100) (dx_at ck149_0 35 rfl) (by decide) ?_
  refine b_bastT (wdU 4) (dx_at ck149_1 0 rfl) (by omega) (vp_in_nI (by decide) (by decide)) (wdU_up rfl rfl) ?_
  refine b_dup (dx_at ck149_1 1 rfl) rfl ?_
  refine b_iconst (v := nI 4) (dx_at ck149_1 2 rfl) rfl ?_
  refine b_bipush (v := nI 115) (dx_at ck149_1 3 rfl) (by decide) ?_
  refine b_bastT (wdU 5) (dx_at ck149_1 4 rfl) (by omega) (vp_in_nI (by decide) (by decide)) (wdU_up rfl rfl) ?_
  refine b_dup (dx_at ck149_1 5 rfl) rfl ?_
  refine b_iconst (v := nI 5) (dx_at ck149_1 6 rfl) rfl ?_
  refine b_bipush (v := nI 32) (dx_at ck149_1 7 rfl) (by decide) ?_
  refine b_bastT (wdU 6) (dx_at ck149_1 8 rfl) (by omega) (vp_in_nI (by decide) (by decide)) (wdU_up rfl rfl) ?_
  refine b_dup (dx_at ck149_1 9 rfl) rfl ?_
  refine b_bipush (v := nI 6) (dx_at ck149_1 10 rfl) (by decide) ?_
  refine b_bipush (v := nI 98) (dx_at ck149_1 11 rfl) (by decide) ?_
  refine b_bastT (wdU 7) (dx_at ck149_1 12 rfl) (by omega) (vp_in_nI (by decide) (by decide)) (wdU_up rfl rfl) ?_
  refine b_dup (dx_at ck149_1 13 rfl) rfl ?_
  refine b_bipush (v := nI 7) (dx_at ck149_1 14 rfl) (by decide) ?_
  refine b_bipush (v := nI 111) (dx_at ck149_1 15 rfl) (by decide) ?_
  refine b_bastT (wdU 8) (dx_at ck149_1 16 rfl) (by omega) (vp_in_nI (by decide) (by decide)) (wdU_up rfl rfl) ?_
  refine b_dup (dx_at ck149_1 17 rfl) rfl ?_
  refine b_bipush (v := nI 8) (dx_at ck149_1 18 rfl) (by decide) ?_
  refine b_bipush (v := nI 117) (dx_at ck149_1 19 rfl) (by decide) ?_
  refine b_bastT (wdU 9) (dx_at ck149_1 20 rfl) (by omega) (vp_in_nI (by decide) (by decide)) (wdU_up rfl rfl) ?_
  refine b_dup (dx_at ck149_1 21 rfl) rfl ?_
  refine b_bipush (v := nI 9) (dx_at ck149_1 22 rfl) (by decide) ?_
  refine b_bipush (v := nI 110) (dx_at ck149_1 23 rfl) (by decide) ?_
  refine b_bastT (wdU 10) (dx_at ck149_1 24 rfl) (by omega) (vp_in_nI (by decide) (by decide)) (wdU_up rfl rfl) ?_
  refine b_dup (dx_at ck149_1 25 rfl) rfl ?_
  refine b_bipush (v := nI 10) (dx_at ck149_1 26 rfl) (by decide) ?_
  refine b_bipush (v := nI 100) (dx_at ck149_1 27 rfl) (by decide) ?_
  refine b_bastT (wdU 11) (dx_at ck149_1 28 rfl) (by omega) (vp_in_nI (by decide) (by decide)) (wdU_up rfl rfl) ?_
  refine b_dup (dx_at ck149_1 29 rfl) rfl ?_
  refine b_bipush (v := nI 11) (dx_at ck149_1 30 rfl) (by decide) ?_
  refine b_bipush (v := nI 32) (dx_at ck149_1 31 rfl) (by decide) ?_
  refine b_bastT (wdU 12) (dx_at ck149_1 32 rfl) (by omega) (vp_in_nI (by decide) (by decide)) (wdU_up rfl rfl) ?_
  refine b_dup (dx_at ck149_1 33 rfl) rfl ?_
  refine b_bipush (v := nI 12) (dx_at ck149_1 34 rfl) (by decide) ?_
  refine b_bipush (v := nI 105) (dx_at ck149_1 35 rfl) (by decide) ?_
  refine b_bastT (wdU 13) (dx_at ck149_2 0 rfl) (by omega) (vp_in_nI (by decide) (by decide)) (wdU_up rfl rfl) ?_
  refine b_dup (dx_at ck149_2 1 rfl) rfl ?_
  refine b_bipush (v := nI 13) (dx_at ck149_2 2 rfl) (by decide) ?_
  refine b_bipush (v := nI 102) (dx_at ck149_2 3 rfl) (by decide) ?_
  refine b_bastT (wdU 14) (dx_at ck149_2 4 rfl) (by omega) (vp_in_nI (by decide) (by decide)) (wdU_up rfl rfl) ?_
  refine b_dup (dx_at ck149_2 5 rfl) rfl ?_
  refine b_bipush (v := nI 14) (dx_at ck149_2 6 rfl) (by decide) ?_
  refine b_bipush (v := nI 32) (dx_at ck149_2 7 rfl) (by decide) ?_
  refine b_bastT (wdU 15) (dx_at ck149_2 8 rfl) (by omega) (vp_in_nI (by decide) (by decide)) (wdU_up rfl rfl) ?_
  refine b_dup (dx_at ck149_2 9 rfl) rfl ?_
  refine b_bipush (v := nI 15) (dx_at ck149_2 10 rfl) (by decide) ?_
  refine b_bipush (v := nI 111) (dx_at ck149_2 11 rfl) (by decide) ?_
  refine b_bastT (wdU 16) (dx_at ck149_2 12 rfl) (by omega) (vp_in_nI (by decide) (by decide)) (wdU_up rfl rfl) ?_
  refine b_dup (dx_at ck149_2 13 rfl) rfl ?_
  refine b_bipush (v := nI 16) (dx_at ck149_2 14 rfl) (by decide) ?_
  refine b_bipush (v := nI 114) (dx_at ck149_2 15 rfl) (by decide) ?_
  refine b_bastT (wdU 17) (dx_at ck149_2 16 rfl) (by omega) (vp_in_nI (by decide) (by decide)) (wdU_up rfl rfl) ?_
  refine b_dup (dx_at ck149_2 17 rfl) rfl ?_
  refine b_bipush (v := nI 17) (dx_at ck149_2 18 rfl) (by decide) ?_
  refine b_bipush (v := nI 32) (dx_at ck149_2 19 rfl) (by decide) ?_
  refine b_bastT (wdU 18) (dx_at ck149_2 20 rfl) (by omega) (vp_in_nI (by decide) (by decide)) (wdU_up rfl rfl) ?_
  refine b_dup (dx_at ck149_2 21 rfl) rfl ?_
  refine b_bipush (v := nI 18) (dx_at ck149_2 22 rfl) (by decide) ?_
  refine b_bipush (v := nI 97) (dx_at ck149_2 23 rfl) (by decide) ?_
  refine b_bastT (wdU 19) (dx_at ck149_2 24 rfl) (by omega) (vp_in_nI (by decide) (by decide)) (wdU_up rfl rfl) ?_
  refine b_dup (dx_at ck149_2 25 rfl) rfl ?_
  refine b_bipush (v := nI 19) (dx_at ck149_2 26 rfl) (by decide) ?_
  refine b_bipush (v := nI 110) (dx_at ck149_2 27 rfl) (by decide) ?_
  refine b_bastT (wdU 20) (dx_at ck149_2 28 rfl) (by omega) (vp_in_nI (by decide) (by decide)) (wdU_up rfl rfl) ?_
  refine b_dup (dx_at ck149_2 29 rfl) rfl ?_
  refine b_bipush (v := nI 20) (dx_at ck149_2 30 rfl) (by decide) ?_
  refine b_bipush (v := nI 100) (dx_at ck149_2 31 rfl) (by decide) ?_
  refine b_bastT (wdU 21) (dx_at ck149_2 32 rfl) (by omega) (vp_in_nI (by decide) (by decide)) (wdU_up rfl rfl) ?_
  refine b_dup (dx_at ck149_2 33 rfl) rfl ?_
  refine b_bipush (v := nI 21) (dx_at ck149_2 34 rfl) (by decide) ?_
  refine b_bipush (v := nI 32) (dx_at ck149_2 35 rfl) (by decide) ?_
  refine b_bastT (wdU 22) (dx_at ck149_3 0 rfl) (by omega) (vp_in_nI (by decide) (by decide)) (wdU_up rfl rfl) ?_
  refine b_dup (dx_at ck149_3 1 rfl) rfl ?_
  refine b_bipush (v := nI 22) (dx_at ck149_3 2 rfl) (by decide) ?_
  refine b_bipush (v := nI 110) (dx_at ck149_3 3 rfl) (by decide) ?_
  refine b_bastT (wdU 23) (dx_at ck149_3 4 rfl) (by omega) (vp_in_nI (by decide) (by decide)) (wdU_up rfl rfl) ?_
  refine b_dup (dx_at ck149_3 5 rfl) rfl ?_
  refine b_bipush (v := nI 23) (dx_at ck149_3 6 rfl) (by decide) ?_
  refine b_bipush (v := nI 111) (dx_at ck149_3 7 rfl) (by decide) ?_
  refine b_bastT (wdU 24) (dx_at ck149_3 8 rfl) (by omega) (vp_in_nI (by decide) (by decide)) (wdU_up rfl rfl) ?_
  refine b_dup (dx_at ck149_3 9 rfl) rfl ?_
  refine b_bipush (v := nI 24) (dx_at ck149_3 10 rfl) (by decide) ?_
  refine b_bipush (v := nI 116) (dx_at ck149_3 11 rfl) (by decide) ?_
  refine b_bastT (wdU 25) (dx_at ck149_3 12 rfl) (by omega) (vp_in_nI (by decide) (by decide)) (wdU_up rfl rfl) ?_
  refine b_dup (dx_at ck149_3 13 rfl) rfl ?_
  refine b_bipush (v := nI 25) (dx_at ck149_3 14 rfl) (by decide) ?_
  refine b_bipush (v := nI 32) (dx_at ck149_3 15 rfl) (by decide) ?_
  refine b_bastT (wdU 26) (dx_at ck149_3 16 rfl) (by omega) (vp_in_nI (by decide) (by decide)) (wdU_up rfl rfl) ?_
  refine b_dup (dx_at ck149_3 17 rfl) rfl ?_
  refine b_bipush (v := nI 26) (dx_at ck149_3 18 rfl) (by decide) ?_
  refine b_bipush (v := nI 115) (dx_at ck149_3 19 rfl) (by decide) ?_
  refine b_bastT (wdU 27) (dx_at ck149_3 20 rfl) (by omega) (vp_in_nI (by decide) (by decide)) (wdU_up rfl rfl) ?_
  refine b_dup (dx_at ck149_3 21 rfl) rfl ?_
  refine b_bipush (v := nI 27) (dx_at ck149_3 22 rfl) (by decide) ?_
  refine b_bipush (v := nI 116) (dx_at ck149_3 23 rfl) (by decide) ?_
  refine b_bastT (wdU 28) (dx_at ck149_3 24 rfl) (by omega) (vp_in_nI (by decide) (by decide)) (wdU_up rfl rfl) ?_
  refine b_dup (dx_at ck149_3 25 rfl) rfl ?_
  refine b_bipush (v := nI 28) (dx_at ck149_3 26 rfl) (by decide) ?_
  refine b_bipush (v := nI 111) (dx_at ck149_3 27 rfl) (by decide) ?_
  refine b_bastT (wdU 29) (dx_at ck149_3 28 rfl) (by omega) (vp_in_nI (by decide) (by decide)) (wdU_up rfl rfl) ?_
  refine b_dup (dx_at ck149_3 29 rfl) rfl ?_
  refine b_bipush (v := nI 29) (dx_at ck149_3 30 rfl) (by decide) ?_
  refine b_bipush (v := nI 110) (dx_at ck149_3 31 rfl) (by decide) ?_
  refine b_bastT (wdU 30) (dx_at ck149_3 32 rfl) (by omega) (vp_in_nI (by decide) (by decide)) (wdU_up rfl rfl) ?_
  refine b_dup (dx_at ck149_3 33 rfl) rfl ?_
  refine b_bipush (v := nI 30) (dx_at ck149_3 34 rfl) (by decide) ?_
  refine b_bipush (v := nI 101) (dx_at ck149_3 35 rfl) (by decide) ?_
  refine b_bastT (wdU 31) (dx_at ck149_4 0 rfl) (by omega) (vp_in_nI (by decide) (by decide)) (wdU_up rfl rfl) ?_
  refine b_dup (dx_at ck149_4 1 rfl) rfl ?_
  refine b_bipush (v := nI 31) (dx_at ck149_4 2 rfl) (by decide) ?_
  refine b_bipush (v := nI 32) (dx_at ck149_4 3 rfl) (by decide) ?_
  refine b_bastT (wdU 32) (dx_at ck149_4 4 rfl) (by omega) (vp_in_nI (by decide) (by decide)) (wdU_up rfl rfl) ?_
  refine b_dup (dx_at ck149_4 5 rfl) rfl ?_
  refine b_bipush (v := nI 32) (dx_at ck149_4 6 rfl) (by decide) ?_
  refine b_bipush (v := nI 120) (dx_at ck149_4 7 rfl) (by decide) ?_
  refine b_bastT (wdU 33) (dx_at ck149_4 8 rfl) (by omega) (vp_in_nI (by decide) (by decide)) (wdU_up rfl rfl) ?_
  refine b_dup (dx_at ck149_4 9 rfl) rfl ?_
  refine b_bipush (v := nI 33) (dx_at ck149_4 10 rfl) (by decide) ?_
  refine b_bipush (v := nI 32) (dx_at ck149_4 11 rfl) (by decide) ?_
  refine b_bastT (wdU 34) (dx_at ck149_4 12 rfl) (by omega) (vp_in_nI (by decide) (by decide)) (wdU_up rfl rfl) ?_
  refine b_dup (dx_at ck149_4 13 rfl) rfl ?_
  refine b_bipush (v := nI 34) (dx_at ck149_4 14 rfl) (by decide) ?_
  refine b_bipush (v := nI 121) (dx_at ck149_4 15 rfl) (by decide) ?_
  refine b_bastT (wdU 35) (dx_at ck149_4 16 rfl) (by omega) (vp_in_nI (by decide) (by decide)) (wdU_up rfl rfl) ?_
  refine b_dup (dx_at ck149_4 17 rfl) rfl ?_
  refine b_bipush (v := nI 35) (dx_at ck149_4 18 rfl) (by decide) ?_
  refine b_bipush (v := nI 32) (dx_at ck149_4 19 rfl) (by decide) ?_
  refine b_bastT (wdU 36) (dx_at ck149_4 20 rfl) (by omega) (vp_in_nI (by decide) (by decide)) (wdU_up rfl rfl) ?_
  refine b_dup (dx_at ck149_4 21 rfl) rfl ?_
  refine b_bipush (v := nI 36) (dx_at ck149_4 22 rfl) (by decide) ?_
  refine b_bipush (v := nI 119) (dx_at ck149_4 23 rfl) (by decide) ?_
  refine b_bastT (wdU 37) (dx_at ck149_4 24 rfl) (by omega) (vp_in_nI (by decide) (by decide)) (wdU_up rfl rfl) ?_
  refine b_dup (dx_at ck149_4 25 rfl) rfl ?_
  refine b_bipush (v := nI 37) (dx_at ck149_4 26 rfl) (by decide) ?_
  refine b_bipush (v := nI 105) (dx_at ck149_4 27 rfl) (by decide) ?_
  refine b_bastT (wdU 38) (dx_at ck149_4 28 rfl) (by omega) (vp_in_nI (by decide) (by decide)) (wdU_up rfl rfl) ?_
  refine b_dup (dx_at ck149_4 29 rfl) rfl ?_
  refine b_bipush (v := nI 38) (dx_at ck149_4 30 rfl) (by decide) ?_
  refine b_bipush (v := nI 100) (dx_at ck149_4 31 rfl) (by decide) ?_
  refine b_bastT (wdU 39) (dx_at ck149_4 32 rfl) (by omega) (vp_in_nI (by decide) (by decide)) (wdU_up rfl rfl) ?_
  refine b_dup (dx_at ck149_4 33 rfl) rfl ?_
  refine b_bipush (v := nI 39) (dx_at ck149_4 34 rfl) (by decide) ?_
  refine b_bipush (v := nI 101) (dx_at ck149_4 35 rfl) (by decide) ?_
  refine b_bastT (wdU 40) (dx_at ck149_5 0 rfl) (by omega) (vp_in_nI (by decide) (by decide)) (wdU_up rfl rfl) ?_
  refine b_dup (dx_at ck149_5 1 rfl) rfl ?_
  refine b_bipush (v := nI 40) (dx_at ck149_5 2 rfl) (by decide) ?_
  refine b_bipush (v := nI 32) (dx_at ck149_5 3 rfl) (by decide) ?_
  refine b_bastT (wdU 41) (dx_at ck149_5 4 rfl) (by omega) (vp_in_nI (by decide) (by decide)) (wdU_up rfl rfl) ?_
  refine b_dup (dx_at ck149_5 5 rfl) rfl ?_
  refine b_bipush (v := nI 41) (dx_at ck149_5 6 rfl) (by decide) ?_
  refine b_bipush (v := nI 116) (dx_at ck149_5 7 rfl) (by decide) ?_
  refine b_bastT (wdU 42) (dx_at ck149_5 8 rfl) (by omega) (vp_in_nI (by decide) (by decide)) (wdU_up rfl rfl) ?_
  refine b_dup (dx_at ck149_5 9 rfl) rfl ?_
  refine b_bipush (v := nI 42) (dx_at ck149_5 10 rfl) (by decide) ?_
  refine b_bipush (v := nI 97) (dx_at ck149_5 11 rfl) (by decide) ?_
  refine b_bastT (wdU 43) (dx_at ck149_5 12 rfl) (by omega) (vp_in_nI (by decide) (by decide)) (wdU_up rfl rfl) ?_
  refine b_dup (dx_at ck149_5 13 rfl) rfl ?_
  refine b_bipush (v := nI 43) (dx_at ck149_5 14 rfl) (by decide) ?_
  refine b_bipush (v := nI 108) (dx_at ck149_5 15 rfl) (by decide) ?_
  refine b_bastT (wdU 44) (dx_at ck149_5 16 rfl) (by omega) (vp_in_nI (by decide) (by decide)) (wdU_up rfl rfl) ?_
  refine b_dup (dx_at ck149_5 17 rfl) rfl ?_
  refine b_bipush (v := nI 44) (dx_at ck149_5 18 rfl) (by decide) ?_
  refine b_bipush (v := nI 108) (dx_at ck149_5 19 rfl) (by decide) ?_
  refine b_bastT (wdU 45) (dx_at ck149_5 20 rfl) (by omega) (vp_in_nI (by decide) (by decide)) (wdU_up rfl rfl) ?_
  refine b_dup (dx_at ck149_5 21 rfl) rfl ?_
  refine b_bipush (v := nI 45) (dx_at ck149_5 22 rfl) (by decide) ?_
  refine b_bipush (v := nI 32) (dx_at ck149_5 23 rfl) (by decide) ?_
  refine b_bastT (wdU 46) (dx_at ck149_5 24 rfl) (by omega) (vp_in_nI (by decide) (by decide)) (wdU_up rfl rfl) ?_
  refine b_dup (dx_at ck149_5 25 rfl) rfl ?_
  refine b_bipush (v := nI 46) (dx_at ck149_5 26 rfl) (by decide) ?_
  refine b_bipush (v := nI 119) (dx_at ck149_5 27 rfl) (by decide) ?_
  refine b_bastT (wdU 47) (dx_at ck149_5 28 rfl) (by omega) (vp_in_nI (by decide) (by decide)) (wdU_up rfl rfl) ?_
  refine b_dup (dx_at ck149_5 29 rfl) rfl ?_
  refine b_bipush (v := nI 47) (dx_at ck149_5 30 rfl) (by decide) ?_
  refine b_bipush (v := nI 101) (dx_at ck149_5 31 rfl) (by decide) ?_
  refine b_bastT (wdU 48) (dx_at ck149_5 32 rfl) (by omega) (vp_in_nI (by decide) (by decide)) (wdU_up rfl rfl) ?_
  refine b_dup (dx_at ck149_5 33 rfl) rfl ?_
  refine b_bipush (v := nI 48) (dx_at ck149_5 34 rfl) (by decide) ?_
  refine b_bipush (v := nI 105) (dx_at ck149_5 35 rfl) (by decide) ?_
  refine b_bastT (wdU 49) (dx_at ck149_6 0 rfl) (by omega) (vp_in_nI (by decide) (by decide)) (wdU_up rfl rfl) ?_
  refine b_dup (dx_at ck149_6 1 rfl) rfl ?_
  refine b_bipush (v := nI 49) (dx_at ck149_6 2 rfl) (by decide) ?_
  refine b_bipush (v := nI 103) (dx_at ck149_6 3 rfl) (by decide) ?_
  refine b_bastT (wdU 50) (dx_at ck149_6 4 rfl) (by omega) (vp_in_nI (by decide) (by decide)) (wdU_up rfl rfl) ?_
  refine b_dup (dx_at ck149_6 5 rfl) rfl ?_
  refine b_bipush (v := nI 50) (dx_at ck149_6 6 rfl) (by decide) ?_
  refine b_bipush (v := nI 104) (dx_at ck149_6 7 rfl) (by decide) ?_
  refine b_bastT (wdU 51) (dx_at ck149_6 8 rfl) (by omega) (vp_in_nI (by decide) (by decide)) (wdU_up rfl rfl) ?_
  refine b_dup (dx_at ck149_6 9 rfl) rfl ?_
  refine b_bipush (v := nI 51) (dx_at ck149_6 10 rfl) (by decide) ?_
  refine b_bipush (v := nI 116) (dx_at ck149_6 11 rfl) (by decide) ?_
  refine b_bastT (wdU 52) (dx_at ck149_6 12 rfl) (by omega) (vp_in_nI (by decide) (by decide)) (wdU_up rfl rfl) ?_
  refine b_dup (dx_at ck149_6 13 rfl) rfl ?_
  refine b_bipush (v := nI 52) (dx_at ck149_6 14 rfl) (by decide) ?_
  refine b_bipush (v := nI 32) (dx_at ck149_6 15 rfl) (by decide) ?_
  refine b_bastT (wdU 53) (dx_at ck149_6 16 rfl) (by omega) (vp_in_nI (by decide) (by decide)) (wdU_up rfl rfl) ?_
  refine b_dup (dx_at ck149_6 17 rfl) rfl ?_
  refine b_bipush (v := nI 53) (dx_at ck149_6 18 rfl) (by decide) ?_
  refine b_bipush (v := nI 102) (dx_at ck149_6 19 rfl) (by decide) ?_
  refine b_bastT (wdU 54) (dx_at ck149_6 20 rfl) (by omega) (vp_in_nI (by decide) (by decide)) (wdU_up rfl rfl) ?_
  refine b_dup (dx_at ck149_6 21 rfl) rfl ?_
  refine b_bipush (v := nI 54) (dx_at ck149_6 22 rfl) (by decide) ?_
  refine b_bipush (v := nI 97) (dx_at ck149_6 23 rfl) (by decide) ?_
  refine b_bastT (wdU 55) (dx_at ck149_6 24 rfl) (by omega) (vp_in_nI (by decide) (by decide)) (wdU_up rfl rfl) ?_
  refine b_dup (dx_at ck149_6 25 rfl) rfl ?_
  refine b_bipush (v := nI 55) (dx_at ck149_6 26 rfl) (by decide) ?_
  refine b_bipush (v := nI 114) (dx_at ck149_6 27 rfl) (by decide) ?_
  refine b_bastT (wdU 56) (dx_at ck149_6 28 rfl) (by omega) (vp_in_nI (by decide) (by decide)) (wdU_up rfl rfl) ?_
  refine b_dup (dx_at ck149_6 29 rfl) rfl ?_
  refine b_bipush (v := nI 56) (dx_at ck149_6 30 rfl) (by decide) ?_
  refine b_bipush (v := nI 109) (dx_at ck149_6 31 rfl) (by decide) ?_
  refine b_bastT (wdU 57) (dx_at ck149_6 32 rfl) (by omega) (vp_in_nI (by decide) (by decide)) (wdU_up rfl rfl) ?_
  refine b_dup (dx_at ck149_6 33 rfl) rfl ?_
  refine b_bipush (v := nI 57) (dx_at ck149_6 34 rfl) (by decide) ?_
  refine b_bipush (v := nI 32) (dx_at ck149_6 35 rfl) (by decide) ?_
  refine b_bastT (wdU 58) (dx_at ck149_7 0 rfl) (by omega) (vp_in_nI (by decide) (by decide)) (wdU_up rfl rfl) ?_
  refine b_dup (dx_at ck149_7 1 rfl) rfl ?_
  refine b_bipush (v := nI 58) (dx_at ck149_7 2 rfl) (by decide) ?_
  refine b_bipush (v := nI 102) (dx_at ck149_7 3 rfl) (by decide) ?_
  refine b_bastT (wdU 59) (dx_at ck149_7 4 rfl) (by omega) (vp_in_nI (by decide) (by decide)) (wdU_up rfl rfl) ?_
  refine b_dup (dx_at ck149_7 5 rfl) rfl ?_
  refine b_bipush (v := nI 59) (dx_at ck149_7 6 rfl) (by decide) ?_
  refine b_bipush (v := nI 114) (dx_at ck149_7 7 rfl) (by decide) ?_
  refine b_bastT (wdU 60) (dx_at ck149_7 8 rfl) (by omega) (vp_in_nI (by decide) (by decide)) (wdU_up rfl rfl) ?_
  refine b_dup (dx_at ck149_7 9 rfl) rfl ?_
  refine b_bipush (v := nI 60) (dx_at ck149_7 10 rfl) (by decide) ?_
  refine b_bipush (v := nI 111) (dx_at ck149_7 11 rfl) (by decide) ?_
  refine b_bastT (wdU 61) (dx_at ck149_7 12 rfl) (by omega) (vp_in_nI (by decide) (by decide)) (wdU_up rfl rfl) ?_
  refine b_dup (dx_at ck149_7 13 rfl) rfl ?_
  refine b_bipush (v := nI 61) (dx_at ck149_7 14 rfl) (by decide) ?_
  refine b_bipush (v := nI 115) (dx_at ck149_7 15 rfl) (by decide) ?_
  refine b_bastT (wdU 62) (dx_at ck149_7 16 rfl) (by omega) (vp_in_nI (by decide) (by decide)) (wdU_up rfl rfl) ?_
  refine b_dup (dx_at ck149_7 17 rfl) rfl ?_
  refine b_bipush (v := nI 62) (dx_at ck149_7 18 rfl) (by decide) ?_
  refine b_bipush (v := nI 116) (dx_at ck149_7 19 rfl) (by decide) ?_
  refine b_bastT (wdU 63) (dx_at ck149_7 20 rfl) (by omega) (vp_in_nI (by decide) (by decide)) (wdU_up rfl rfl) ?_
  refine b_dup (dx_at ck149_7 21 rfl) rfl ?_
  refine b_bipush (v := nI 63) (dx_at ck149_7 22 rfl) (by decide) ?_
  refine b_bipush (v := nI 32) (dx_at ck149_7 23 rfl) (by decide) ?_
  refine b_bastT (wdU 64) (dx_at ck149_7 24 rfl) (by omega) (vp_in_nI (by decide) (by decide)) (wdU_up rfl rfl) ?_
  refine b_put2 (i := io) (fs := [.int 0, .int 0, .ref a1, .ref a2, .ref a3, .ref a4, .int 0, .null, .null, .null, .int 0, .int 0, .null, .null, .null, .int 0, .int 0, .int 0, .int 0, .int 0, .int 0, .int 0, .null, .null, .null, .null, .null, .int 0, .null, .null, .null, .null, .int 0, .int 0, .int 0, .null, .null, .int 0, .int 0]) [.int 0, .int 0, .ref a1, .ref a2, .ref a3, .ref a4, .int 0, .ref a5, .null, .null, .int 0, .int 0, .null, .null, .null, .int 0, .int 0, .int 0, .int 0, .int 0, .int 0, .int 0, .null, .null, .null, .null, .null, .int 0, .null, .null, .null, .null, .int 0, .int 0, .int 0, .null, .null, .int 0, .int 0] (dx_at ck149_7 25 rfl) (show chF 149 30 12 7 = true by decide +kernel) (by omega) ((upW_n (by omega)).trans (upW_s)) (Or.inr ⟨rfl, cn149.2.2.1, by rw [cn149.1]; rfl⟩) rfl rfl (Nat.le_of_ble_eq_true rfl) rfl ?_
  refine b_aload_n (x := x) (dx_at ck149_7 26 rfl) rfl ?_
  refine b_sipush (v := nI 400) (dx_at ck149_7 27 rfl) (by decide) ?_
  refine b_newaS (t0 := 3) (N := 400) (ty := .byte) (a0 := (400, .inl (fun _ => 0))) 15 83264 (dx_at ck149_7 28 rfl) (show lw_tbl[689]? = _ by decide +kernel) rfl (fun _ => rfl) (fun _ => rfl) (by decide) (by decide) (by decide) (by decide) (fun a6 => ?_)
  refine b_put2 (i := io) (fs := [.int 0, .int 0, .ref a1, .ref a2, .ref a3, .ref a4, .int 0, .ref a5, .null, .null, .int 0, .int 0, .null, .null, .null, .int 0, .int 0, .int 0, .int 0, .int 0, .int 0, .int 0, .null, .null, .null, .null, .null, .int 0, .null, .null, .null, .null, .int 0, .int 0, .int 0, .null, .null, .int 0, .int 0]) [.int 0, .int 0, .ref a1, .ref a2, .ref a3, .ref a4, .int 0, .ref a5, .ref a6, .null, .int 0, .int 0, .null, .null, .null, .int 0, .int 0, .int 0, .int 0, .int 0, .int 0, .int 0, .null, .null, .null, .null, .null, .int 0, .null, .null, .null, .null, .int 0, .int 0, .int 0, .null, .null, .int 0, .int 0] (dx_at ck149_7 29 rfl) (show chF 149 34 12 8 = true by decide +kernel) (by omega) ((upW_n (by omega)).trans (upW_s)) (Or.inr ⟨rfl, cn149.2.2.1, by rw [cn149.1]; rfl⟩) rfl rfl (Nat.le_of_ble_eq_true rfl) rfl ?_
  refine b_aload_n (x := x) (dx_at ck149_7 30 rfl) rfl ?_
  refine b_iconst (v := nI 5) (dx_at ck149_7 31 rfl) rfl ?_
  refine b_newaS (t0 := 0) (N := 5) (ty := .int) (a0 := (5, .inl (fun _ => 0))) 14 83259 (dx_at ck149_7 32 rfl) (show lw_tbl[153]? = _ by decide +kernel) rfl (fun _ => rfl) (fun _ => rfl) (by decide) (by decide) (by decide) (by decide) (fun a7 => ?_)
  refine b_put2 (i := io) (fs := [.int 0, .int 0, .ref a1, .ref a2, .ref a3, .ref a4, .int 0, .ref a5, .ref a6, .null, .int 0, .int 0, .null, .null, .null, .int 0, .int 0, .int 0, .int 0, .int 0, .int 0, .int 0, .null, .null, .null, .null, .null, .int 0, .null, .null, .null, .null, .int 0, .int 0, .int 0, .null, .null, .int 0, .int 0]) [.int 0, .int 0, .ref a1, .ref a2, .ref a3, .ref a4, .int 0, .ref a5, .ref a6, .ref a7, .int 0, .int 0, .null, .null, .null, .int 0, .int 0, .int 0, .int 0, .int 0, .int 0, .int 0, .null, .null, .null, .null, .null, .int 0, .null, .null, .null, .null, .int 0, .int 0, .int 0, .null, .null, .int 0, .int 0] (dx_at ck149_7 33 rfl) (show chF 149 37 12 9 = true by decide +kernel) (by omega) ((upW_n (by omega)).trans (upW_s)) (Or.inr ⟨rfl, cn149.2.2.1, by rw [cn149.1]; rfl⟩) rfl rfl (Nat.le_of_ble_eq_true rfl) rfl ?_
  refine b_aload_n (x := x) (dx_at ck149_7 34 rfl) rfl ?_
  refine b_iconst (v := -1) (dx_at ck149_7 35 rfl) rfl ?_
  refine b_put2 (i := io) (fs := [.int 0, .int 0, .ref a1, .ref a2, .ref a3, .ref a4, .int 0, .ref a5, .ref a6, .ref a7, .int 0, .int 0, .null, .null, .null, .int 0, .int 0, .int 0, .int 0, .int 0, .int 0, .int 0, .null, .null, .null, .null, .null, .int 0, .null, .null, .null, .null, .int 0, .int 0, .int 0, .null, .null, .int 0, .int 0]) [.int 0, .int 0, .ref a1, .ref a2, .ref a3, .ref a4, .int 0, .ref a5, .ref a6, .ref a7, .int 0, .int (-1), .null, .null, .null, .int 0, .int 0, .int 0, .int 0, .int 0, .int 0, .int 0, .null, .null, .null, .null, .null, .int 0, .null, .null, .null, .null, .int 0, .int 0, .int 0, .null, .null, .int 0, .int 0] (dx_at ck149_8 0 rfl) (show chF 149 40 12 11 = true by decide +kernel) (by omega) (upW_s) (Or.inl rfl) rfl rfl (Nat.le_of_ble_eq_true rfl) rfl ?_
  refine b_aload_n (x := x) (dx_at ck149_8 1 rfl) rfl ?_
  refine b_sipush (v := nI 401) (dx_at ck149_8 2 rfl) (by decide) ?_
  refine b_newaS (t0 := 0) (N := 401) (ty := .int) (a0 := (401, .inl (fun _ => 0))) 13 82858 (dx_at ck149_8 3 rfl) (show lw_tbl[153]? = _ by decide +kernel) rfl (fun _ => rfl) (fun _ => rfl) (by decide) (by decide) (by decide) (by decide) (fun a8 => ?_)
  refine b_put2 (i := io) (fs := [.int 0, .int 0, .ref a1, .ref a2, .ref a3, .ref a4, .int 0, .ref a5, .ref a6, .ref a7, .int 0, .int (-1), .null, .null, .null, .int 0, .int 0, .int 0, .int 0, .int 0, .int 0, .int 0, .null, .null, .null, .null, .null, .int 0, .null, .null, .null, .null, .int 0, .int 0, .int 0, .null, .null, .int 0, .int 0]) [.int 0, .int 0, .ref a1, .ref a2, .ref a3, .ref a4, .int 0, .ref a5, .ref a6, .ref a7, .int 0, .int (-1), .ref a8, .null, .null, .int 0, .int 0, .int 0, .int 0, .int 0, .int 0, .int 0, .null, .null, .null, .null, .null, .int 0, .null, .null, .null, .null, .int 0, .int 0, .int 0, .null, .null, .int 0, .int 0] (dx_at ck149_8 4 rfl) (show chF 149 43 12 12 = true by decide +kernel) (by omega) ((upW_n (by omega)).trans (upW_s)) (Or.inr ⟨rfl, cn149.2.2.1, by rw [cn149.1]; rfl⟩) rfl rfl (Nat.le_of_ble_eq_true rfl) rfl ?_
  refine b_aload_n (x := x) (dx_at ck149_8 5 rfl) rfl ?_
  refine b_sipush (v := nI 401) (dx_at ck149_8 6 rfl) (by decide) ?_
  refine b_newaS (t0 := 0) (N := 401) (ty := .int) (a0 := (401, .inl (fun _ => 0))) 12 82457 (dx_at ck149_8 7 rfl) (show lw_tbl[153]? = _ by decide +kernel) rfl (fun _ => rfl) (fun _ => rfl) (by decide) (by decide) (by decide) (by decide) (fun a9 => ?_)
  refine b_put2 (i := io) (fs := [.int 0, .int 0, .ref a1, .ref a2, .ref a3, .ref a4, .int 0, .ref a5, .ref a6, .ref a7, .int 0, .int (-1), .ref a8, .null, .null, .int 0, .int 0, .int 0, .int 0, .int 0, .int 0, .int 0, .null, .null, .null, .null, .null, .int 0, .null, .null, .null, .null, .int 0, .int 0, .int 0, .null, .null, .int 0, .int 0]) [.int 0, .int 0, .ref a1, .ref a2, .ref a3, .ref a4, .int 0, .ref a5, .ref a6, .ref a7, .int 0, .int (-1), .ref a8, .ref a9, .null, .int 0, .int 0, .int 0, .int 0, .int 0, .int 0, .int 0, .null, .null, .null, .null, .null, .int 0, .null, .null, .null, .null, .int 0, .int 0, .int 0, .null, .null, .int 0, .int 0] (dx_at ck149_8 8 rfl) (show chF 149 46 12 13 = true by decide +kernel) (by omega) ((upW_n (by omega)).trans (upW_s)) (Or.inr ⟨rfl, cn149.2.2.1, by rw [cn149.1]; rfl⟩) rfl rfl (Nat.le_of_ble_eq_true rfl) rfl ?_
  refine b_aload_n (x := x) (dx_at ck149_8 9 rfl) rfl ?_
  refine b_sipush (v := nI 401) (dx_at ck149_8 10 rfl) (by decide) ?_
  refine b_newaS (t0 := 0) (N := 401) (ty := .int) (a0 := (401, .inl (fun _ => 0))) 11 82056 (dx_at ck149_8 11 rfl) (show lw_tbl[153]? = _ by decide +kernel) rfl (fun _ => rfl) (fun _ => rfl) (by decide) (by decide) (by decide) (by decide) (fun a10 => ?_)
  refine b_put2 (i := io) (fs := [.int 0, .int 0, .ref a1, .ref a2, .ref a3, .ref a4, .int 0, .ref a5, .ref a6, .ref a7, .int 0, .int (-1), .ref a8, .ref a9, .null, .int 0, .int 0, .int 0, .int 0, .int 0, .int 0, .int 0, .null, .null, .null, .null, .null, .int 0, .null, .null, .null, .null, .int 0, .int 0, .int 0, .null, .null, .int 0, .int 0]) [.int 0, .int 0, .ref a1, .ref a2, .ref a3, .ref a4, .int 0, .ref a5, .ref a6, .ref a7, .int 0, .int (-1), .ref a8, .ref a9, .ref a10, .int 0, .int 0, .int 0, .int 0, .int 0, .int 0, .int 0, .null, .null, .null, .null, .null, .int 0, .null, .null, .null, .null, .int 0, .int 0, .int 0, .null, .null, .int 0, .int 0] (dx_at ck149_8 12 rfl) (show chF 149 49 12 14 = true by decide +kernel) (by omega) ((upW_n (by omega)).trans (upW_s)) (Or.inr ⟨rfl, cn149.2.2.1, by rw [cn149.1]; rfl⟩) rfl rfl (Nat.le_of_ble_eq_true rfl) rfl ?_
  refine b_aload_n (x := x) (dx_at ck149_8 13 rfl) rfl ?_
  refine b_bipush (v := nI 8) (dx_at ck149_8 14 rfl) (by decide) ?_
  refine b_newaS (t0 := 0) (N := 8) (ty := .int) (a0 := (8, .inl (fun _ => 0))) 10 82048 (dx_at ck149_8 15 rfl) (show lw_tbl[153]? = _ by decide +kernel) rfl (fun _ => rfl) (fun _ => rfl) (by decide) (by decide) (by decide) (by decide) (fun a11 => ?_)
  refine b_put2 (i := io) (fs := [.int 0, .int 0, .ref a1, .ref a2, .ref a3, .ref a4, .int 0, .ref a5, .ref a6, .ref a7, .int 0, .int (-1), .ref a8, .ref a9, .ref a10, .int 0, .int 0, .int 0, .int 0, .int 0, .int 0, .int 0, .null, .null, .null, .null, .null, .int 0, .null, .null, .null, .null, .int 0, .int 0, .int 0, .null, .null, .int 0, .int 0]) [.int 0, .int 0, .ref a1, .ref a2, .ref a3, .ref a4, .int 0, .ref a5, .ref a6, .ref a7, .int 0, .int (-1), .ref a8, .ref a9, .ref a10, .int 0, .int 0, .int 0, .int 0, .int 0, .int 0, .int 0, .ref a11, .null, .null, .null, .null, .int 0, .null, .null, .null, .null, .int 0, .int 0, .int 0, .null, .null, .int 0, .int 0] (dx_at ck149_8 16 rfl) (show chF 149 52 12 22 = true by decide +kernel) (by omega) ((upW_n (by omega)).trans (upW_s)) (Or.inr ⟨rfl, cn149.2.2.1, by rw [cn149.1]; rfl⟩) rfl rfl (Nat.le_of_ble_eq_true rfl) rfl ?_
  refine b_aload_n (x := x) (dx_at ck149_8 17 rfl) rfl ?_
  refine b_bipush (v := nI 22) (dx_at ck149_8 18 rfl) (by decide) ?_
  refine b_newaS (t0 := 0) (N := 22) (ty := .int) (a0 := (22, .inl (fun _ => 0))) 9 82026 (dx_at ck149_8 19 rfl) (show lw_tbl[153]? = _ by decide +kernel) rfl (fun _ => rfl) (fun _ => rfl) (by decide) (by decide) (by decide) (by decide) (fun a12 => ?_)
  refine b_put2 (i := io) (fs := [.int 0, .int 0, .ref a1, .ref a2, .ref a3, .ref a4, .int 0, .ref a5, .ref a6, .ref a7, .int 0, .int (-1), .ref a8, .ref a9, .ref a10, .int 0, .int 0, .int 0, .int 0, .int 0, .int 0, .int 0, .ref a11, .null, .null, .null, .null, .int 0, .null, .null, .null, .null, .int 0, .int 0, .int 0, .null, .null, .int 0, .int 0]) [.int 0, .int 0, .ref a1, .ref a2, .ref a3, .ref a4, .int 0, .ref a5, .ref a6, .ref a7, .int 0, .int (-1), .ref a8, .ref a9, .ref a10, .int 0, .int 0, .int 0, .int 0, .int 0, .int 0, .int 0, .ref a11, .ref a12, .null, .null, .null, .int 0, .null, .null, .null, .null, .int 0, .int 0, .int 0, .null, .null, .int 0, .int 0] (dx_at ck149_8 20 rfl) (show chF 149 55 12 23 = true by decide +kernel) (by omega) ((upW_n (by omega)).trans (upW_s)) (Or.inr ⟨rfl, cn149.2.2.1, by rw [cn149.1]; rfl⟩) rfl rfl (Nat.le_of_ble_eq_true rfl) rfl ?_
  refine b_aload_n (x := x) (dx_at ck149_8 21 rfl) rfl ?_
  refine b_bipush (v := nI 22) (dx_at ck149_8 22 rfl) (by decide) ?_
  refine b_newaS (t0 := 2) (N := 22) (ty := .boolean) (a0 := (22, .inl (fun _ => 0))) 8 82004 (dx_at ck149_8 23 rfl) (show lw_tbl[169]? = _ by decide +kernel) rfl (fun _ => rfl) (fun _ => rfl) (by decide) (by decide) (by decide) (by decide) (fun a13 => ?_)
  refine b_put2 (i := io) (fs := [.int 0, .int 0, .ref a1, .ref a2, .ref a3, .ref a4, .int 0, .ref a5, .ref a6, .ref a7, .int 0, .int (-1), .ref a8, .ref a9, .ref a10, .int 0, .int 0, .int 0, .int 0, .int 0, .int 0, .int 0, .ref a11, .ref a12, .null, .null, .null, .int 0, .null, .null, .null, .null, .int 0, .int 0, .int 0, .null, .null, .int 0, .int 0]) [.int 0, .int 0, .ref a1, .ref a2, .ref a3, .ref a4, .int 0, .ref a5, .ref a6, .ref a7, .int 0, .int (-1), .ref a8, .ref a9, .ref a10, .int 0, .int 0, .int 0, .int 0, .int 0, .int 0, .int 0, .ref a11, .ref a12, .ref a13, .null, .null, .int 0, .null, .null, .null, .null, .int 0, .int 0, .int 0, .null, .null, .int 0, .int 0] (dx_at ck149_8 24 rfl) (show chF 149 58 12 24 = true by decide +kernel) (by omega) ((upW_n (by omega)).trans (upW_s)) (Or.inr ⟨rfl, cn149.2.2.1, by rw [cn149.1]; rfl⟩) rfl rfl (Nat.le_of_ble_eq_true rfl) rfl ?_
  refine b_aload_n (x := x) (dx_at ck149_8 25 rfl) rfl ?_
  refine b_bipush (v := nI 22) (dx_at ck149_8 26 rfl) (by decide) ?_
  refine b_newaS (t0 := 0) (N := 22) (ty := .int) (a0 := (22, .inl (fun _ => 0))) 7 81982 (dx_at ck149_8 27 rfl) (show lw_tbl[153]? = _ by decide +kernel) rfl (fun _ => rfl) (fun _ => rfl) (by decide) (by decide) (by decide) (by decide) (fun a14 => ?_)
  refine b_put2 (i := io) (fs := [.int 0, .int 0, .ref a1, .ref a2, .ref a3, .ref a4, .int 0, .ref a5, .ref a6, .ref a7, .int 0, .int (-1), .ref a8, .ref a9, .ref a10, .int 0, .int 0, .int 0, .int 0, .int 0, .int 0, .int 0, .ref a11, .ref a12, .ref a13, .null, .null, .int 0, .null, .null, .null, .null, .int 0, .int 0, .int 0, .null, .null, .int 0, .int 0]) [.int 0, .int 0, .ref a1, .ref a2, .ref a3, .ref a4, .int 0, .ref a5, .ref a6, .ref a7, .int 0, .int (-1), .ref a8, .ref a9, .ref a10, .int 0, .int 0, .int 0, .int 0, .int 0, .int 0, .int 0, .ref a11, .ref a12, .ref a13, .ref a14, .null, .int 0, .null, .null, .null, .null, .int 0, .int 0, .int 0, .null, .null, .int 0, .int 0] (dx_at ck149_8 28 rfl) (show chF 149 61 12 25 = true by decide +kernel) (by omega) ((upW_n (by omega)).trans (upW_s)) (Or.inr ⟨rfl, cn149.2.2.1, by rw [cn149.1]; rfl⟩) rfl rfl (Nat.le_of_ble_eq_true rfl) rfl ?_
  refine b_aload_n (x := x) (dx_at ck149_8 29 rfl) rfl ?_
  refine b_bipush (v := nI 22) (dx_at ck149_8 30 rfl) (by decide) ?_
  refine b_newaS (t0 := 0) (N := 22) (ty := .int) (a0 := (22, .inl (fun _ => 0))) 6 81960 (dx_at ck149_8 31 rfl) (show lw_tbl[153]? = _ by decide +kernel) rfl (fun _ => rfl) (fun _ => rfl) (by decide) (by decide) (by decide) (by decide) (fun a15 => ?_)
  refine b_put2 (i := io) (fs := [.int 0, .int 0, .ref a1, .ref a2, .ref a3, .ref a4, .int 0, .ref a5, .ref a6, .ref a7, .int 0, .int (-1), .ref a8, .ref a9, .ref a10, .int 0, .int 0, .int 0, .int 0, .int 0, .int 0, .int 0, .ref a11, .ref a12, .ref a13, .ref a14, .null, .int 0, .null, .null, .null, .null, .int 0, .int 0, .int 0, .null, .null, .int 0, .int 0]) [.int 0, .int 0, .ref a1, .ref a2, .ref a3, .ref a4, .int 0, .ref a5, .ref a6, .ref a7, .int 0, .int (-1), .ref a8, .ref a9, .ref a10, .int 0, .int 0, .int 0, .int 0, .int 0, .int 0, .int 0, .ref a11, .ref a12, .ref a13, .ref a14, .ref a15, .int 0, .null, .null, .null, .null, .int 0, .int 0, .int 0, .null, .null, .int 0, .int 0] (dx_at ck149_8 32 rfl) (show chF 149 64 12 26 = true by decide +kernel) (by omega) ((upW_n (by omega)).trans (upW_s)) (Or.inr ⟨rfl, cn149.2.2.1, by rw [cn149.1]; rfl⟩) rfl rfl (Nat.le_of_ble_eq_true rfl) rfl ?_
  refine b_aload_n (x := x) (dx_at ck149_8 33 rfl) rfl ?_
  refine b_iconst (v := -1) (dx_at ck149_8 34 rfl) rfl ?_
  refine b_put2 (i := io) (fs := [.int 0, .int 0, .ref a1, .ref a2, .ref a3, .ref a4, .int 0, .ref a5, .ref a6, .ref a7, .int 0, .int (-1), .ref a8, .ref a9, .ref a10, .int 0, .int 0, .int 0, .int 0, .int 0, .int 0, .int 0, .ref a11, .ref a12, .ref a13, .ref a14, .ref a15, .int 0, .null, .null, .null, .null, .int 0, .int 0, .int 0, .null, .null, .int 0, .int 0]) [.int 0, .int 0, .ref a1, .ref a2, .ref a3, .ref a4, .int 0, .ref a5, .ref a6, .ref a7, .int 0, .int (-1), .ref a8, .ref a9, .ref a10, .int 0, .int 0, .int 0, .int 0, .int 0, .int 0, .int 0, .ref a11, .ref a12, .ref a13, .ref a14, .ref a15, .int (-1), .null, .null, .null, .null, .int 0, .int 0, .int 0, .null, .null, .int 0, .int 0] (dx_at ck149_8 35 rfl) (show chF 149 67 12 27 = true by decide +kernel) (by omega) (upW_s) (Or.inl rfl) rfl rfl (Nat.le_of_ble_eq_true rfl) rfl ?_
  refine b_aload_n (x := x) (dx_at ck149_9 0 rfl) rfl ?_
  refine b_sipush (v := nI 16384) (dx_at ck149_9 1 rfl) (by decide) ?_
  refine b_newaS (t0 := 2) (N := 16384) (ty := .boolean) (a0 := (16384, .inl (fun _ => 0))) 5 65576 (dx_at ck149_9 2 rfl) (show lw_tbl[169]? = _ by decide +kernel) rfl (fun _ => rfl) (fun _ => rfl) (by decide) (by decide) (by decide) (by decide) (fun a16 => ?_)
  refine b_put2 (i := io) (fs := [.int 0, .int 0, .ref a1, .ref a2, .ref a3, .ref a4, .int 0, .ref a5, .ref a6, .ref a7, .int 0, .int (-1), .ref a8, .ref a9, .ref a10, .int 0, .int 0, .int 0, .int 0, .int 0, .int 0, .int 0, .ref a11, .ref a12, .ref a13, .ref a14, .ref a15, .int (-1), .null, .null, .null, .null, .int 0, .int 0, .int 0, .null, .null, .int 0, .int 0]) [.int 0, .int 0, .ref a1, .ref a2, .ref a3, .ref a4, .int 0, .ref a5, .ref a6, .ref a7, .int 0, .int (-1), .ref a8, .ref a9, .ref a10, .int 0, .int 0, .int 0, .int 0, .int 0, .int 0, .int 0, .ref a11, .ref a12, .ref a13, .ref a14, .ref a15, .int (-1), .ref a16, .null, .null, .null, .int 0, .int 0, .int 0, .null, .null, .int 0, .int 0] (dx_at ck149_9 3 rfl) (show chF 149 70 12 28 = true by decide +kernel) (by omega) ((upW_n (by omega)).trans (upW_s)) (Or.inr ⟨rfl, cn149.2.2.1, by rw [cn149.1]; rfl⟩) rfl rfl (Nat.le_of_ble_eq_true rfl) rfl ?_
  refine b_aload_n (x := x) (dx_at ck149_9 4 rfl) rfl ?_
  refine b_sipush (v := nI 16384) (dx_at ck149_9 5 rfl) (by decide) ?_
  refine b_newaS (t0 := 0) (N := 16384) (ty := .int) (a0 := (16384, .inl (fun _ => 0))) 4 49192 (dx_at ck149_9 6 rfl) (show lw_tbl[153]? = _ by decide +kernel) rfl (fun _ => rfl) (fun _ => rfl) (by decide) (by decide) (by decide) (by decide) (fun a17 => ?_)
  refine b_put2 (i := io) (fs := [.int 0, .int 0, .ref a1, .ref a2, .ref a3, .ref a4, .int 0, .ref a5, .ref a6, .ref a7, .int 0, .int (-1), .ref a8, .ref a9, .ref a10, .int 0, .int 0, .int 0, .int 0, .int 0, .int 0, .int 0, .ref a11, .ref a12, .ref a13, .ref a14, .ref a15, .int (-1), .ref a16, .null, .null, .null, .int 0, .int 0, .int 0, .null, .null, .int 0, .int 0]) [.int 0, .int 0, .ref a1, .ref a2, .ref a3, .ref a4, .int 0, .ref a5, .ref a6, .ref a7, .int 0, .int (-1), .ref a8, .ref a9, .ref a10, .int 0, .int 0, .int 0, .int 0, .int 0, .int 0, .int 0, .ref a11, .ref a12, .ref a13, .ref a14, .ref a15, .int (-1), .ref a16, .ref a17, .null, .null, .int 0, .int 0, .int 0, .null, .null, .int 0, .int 0] (dx_at ck149_9 7 rfl) (show chF 149 73 12 29 = true by decide +kernel) (by omega) ((upW_n (by omega)).trans (upW_s)) (Or.inr ⟨rfl, cn149.2.2.1, by rw [cn149.1]; rfl⟩) rfl rfl (Nat.le_of_ble_eq_true rfl) rfl ?_
  refine b_aload_n (x := x) (dx_at ck149_9 8 rfl) rfl ?_
  refine b_sipush (v := nI 16384) (dx_at ck149_9 9 rfl) (by decide) ?_
  refine b_newaS (t0 := 2) (N := 16384) (ty := .boolean) (a0 := (16384, .inl (fun _ => 0))) 3 32808 (dx_at ck149_9 10 rfl) (show lw_tbl[169]? = _ by decide +kernel) rfl (fun _ => rfl) (fun _ => rfl) (by decide) (by decide) (by decide) (by decide) (fun a18 => ?_)
  refine b_put2 (i := io) (fs := [.int 0, .int 0, .ref a1, .ref a2, .ref a3, .ref a4, .int 0, .ref a5, .ref a6, .ref a7, .int 0, .int (-1), .ref a8, .ref a9, .ref a10, .int 0, .int 0, .int 0, .int 0, .int 0, .int 0, .int 0, .ref a11, .ref a12, .ref a13, .ref a14, .ref a15, .int (-1), .ref a16, .ref a17, .null, .null, .int 0, .int 0, .int 0, .null, .null, .int 0, .int 0]) [.int 0, .int 0, .ref a1, .ref a2, .ref a3, .ref a4, .int 0, .ref a5, .ref a6, .ref a7, .int 0, .int (-1), .ref a8, .ref a9, .ref a10, .int 0, .int 0, .int 0, .int 0, .int 0, .int 0, .int 0, .ref a11, .ref a12, .ref a13, .ref a14, .ref a15, .int (-1), .ref a16, .ref a17, .ref a18, .null, .int 0, .int 0, .int 0, .null, .null, .int 0, .int 0] (dx_at ck149_9 11 rfl) (show chF 149 76 12 30 = true by decide +kernel) (by omega) ((upW_n (by omega)).trans (upW_s)) (Or.inr ⟨rfl, cn149.2.2.1, by rw [cn149.1]; rfl⟩) rfl rfl (Nat.le_of_ble_eq_true rfl) rfl ?_
  refine b_aload_n (x := x) (dx_at ck149_9 12 rfl) rfl ?_
  refine b_sipush (v := nI 16384) (dx_at ck149_9 13 rfl) (by decide) ?_
  refine b_newaS (t0 := 2) (N := 16384) (ty := .boolean) (a0 := (16384, .inl (fun _ => 0))) 2 16424 (dx_at ck149_9 14 rfl) (show lw_tbl[169]? = _ by decide +kernel) rfl (fun _ => rfl) (fun _ => rfl) (by decide) (by decide) (by decide) (by decide) (fun a19 => ?_)
  refine b_put2 (i := io) (fs := [.int 0, .int 0, .ref a1, .ref a2, .ref a3, .ref a4, .int 0, .ref a5, .ref a6, .ref a7, .int 0, .int (-1), .ref a8, .ref a9, .ref a10, .int 0, .int 0, .int 0, .int 0, .int 0, .int 0, .int 0, .ref a11, .ref a12, .ref a13, .ref a14, .ref a15, .int (-1), .ref a16, .ref a17, .ref a18, .null, .int 0, .int 0, .int 0, .null, .null, .int 0, .int 0]) [.int 0, .int 0, .ref a1, .ref a2, .ref a3, .ref a4, .int 0, .ref a5, .ref a6, .ref a7, .int 0, .int (-1), .ref a8, .ref a9, .ref a10, .int 0, .int 0, .int 0, .int 0, .int 0, .int 0, .int 0, .ref a11, .ref a12, .ref a13, .ref a14, .ref a15, .int (-1), .ref a16, .ref a17, .ref a18, .ref a19, .int 0, .int 0, .int 0, .null, .null, .int 0, .int 0] (dx_at ck149_9 15 rfl) (show chF 149 79 12 31 = true by decide +kernel) (by omega) ((upW_n (by omega)).trans (upW_s)) (Or.inr ⟨rfl, cn149.2.2.1, by rw [cn149.1]; rfl⟩) rfl rfl (Nat.le_of_ble_eq_true rfl) rfl ?_
  refine b_aload_n (x := x) (dx_at ck149_9 16 rfl) rfl ?_
  refine b_iconst (v := -1) (dx_at ck149_9 17 rfl) rfl ?_
  refine b_put2 (i := io) (fs := [.int 0, .int 0, .ref a1, .ref a2, .ref a3, .ref a4, .int 0, .ref a5, .ref a6, .ref a7, .int 0, .int (-1), .ref a8, .ref a9, .ref a10, .int 0, .int 0, .int 0, .int 0, .int 0, .int 0, .int 0, .ref a11, .ref a12, .ref a13, .ref a14, .ref a15, .int (-1), .ref a16, .ref a17, .ref a18, .ref a19, .int 0, .int 0, .int 0, .null, .null, .int 0, .int 0]) [.int 0, .int 0, .ref a1, .ref a2, .ref a3, .ref a4, .int 0, .ref a5, .ref a6, .ref a7, .int 0, .int (-1), .ref a8, .ref a9, .ref a10, .int 0, .int 0, .int 0, .int 0, .int 0, .int 0, .int 0, .ref a11, .ref a12, .ref a13, .ref a14, .ref a15, .int (-1), .ref a16, .ref a17, .ref a18, .ref a19, .int (-1), .int 0, .int 0, .null, .null, .int 0, .int 0] (dx_at ck149_9 18 rfl) (show chF 149 82 12 32 = true by decide +kernel) (by omega) (upW_s) (Or.inl rfl) rfl rfl (Nat.le_of_ble_eq_true rfl) rfl ?_
  refine b_aload_n (x := x) (dx_at ck149_9 19 rfl) rfl ?_
  refine b_sipush (v := nI 16384) (dx_at ck149_9 20 rfl) (by decide) ?_
  refine b_newaS (t0 := 2) (N := 16384) (ty := .boolean) (a0 := (16384, .inl (fun _ => 0))) 1 40 (dx_at ck149_9 21 rfl) (show lw_tbl[169]? = _ by decide +kernel) rfl (fun _ => rfl) (fun _ => rfl) (by decide) (by decide) (by decide) (by decide) (fun a20 => ?_)
  refine b_put2 (i := io) (fs := [.int 0, .int 0, .ref a1, .ref a2, .ref a3, .ref a4, .int 0, .ref a5, .ref a6, .ref a7, .int 0, .int (-1), .ref a8, .ref a9, .ref a10, .int 0, .int 0, .int 0, .int 0, .int 0, .int 0, .int 0, .ref a11, .ref a12, .ref a13, .ref a14, .ref a15, .int (-1), .ref a16, .ref a17, .ref a18, .ref a19, .int (-1), .int 0, .int 0, .null, .null, .int 0, .int 0]) [.int 0, .int 0, .ref a1, .ref a2, .ref a3, .ref a4, .int 0, .ref a5, .ref a6, .ref a7, .int 0, .int (-1), .ref a8, .ref a9, .ref a10, .int 0, .int 0, .int 0, .int 0, .int 0, .int 0, .int 0, .ref a11, .ref a12, .ref a13, .ref a14, .ref a15, .int (-1), .ref a16, .ref a17, .ref a18, .ref a19, .int (-1), .int 0, .int 0, .ref a20, .null, .int 0, .int 0] (dx_at ck149_9 22 rfl) (show chF 149 85 12 35 = true by decide +kernel) (by omega) ((upW_n (by omega)).trans (upW_s)) (Or.inr ⟨rfl, cn149.2.2.1, by rw [cn149.1]; rfl⟩) rfl rfl (Nat.le_of_ble_eq_true rfl) rfl ?_
  refine b_aload_n (x := x) (dx_at ck149_9 23 rfl) rfl ?_
  refine b_bipush (v := nI 40) (dx_at ck149_9 24 rfl) (by decide) ?_
  refine b_newaS (t0 := 0) (N := 40) (ty := .int) (a0 := (40, .inl (fun _ => 0))) 0 0 (dx_at ck149_9 25 rfl) (show lw_tbl[153]? = _ by decide +kernel) rfl (fun _ => rfl) (fun _ => rfl) (by decide) (by decide) (by decide) (by decide) (fun a21 => ?_)
  refine b_put2 (i := io) (fs := [.int 0, .int 0, .ref a1, .ref a2, .ref a3, .ref a4, .int 0, .ref a5, .ref a6, .ref a7, .int 0, .int (-1), .ref a8, .ref a9, .ref a10, .int 0, .int 0, .int 0, .int 0, .int 0, .int 0, .int 0, .ref a11, .ref a12, .ref a13, .ref a14, .ref a15, .int (-1), .ref a16, .ref a17, .ref a18, .ref a19, .int (-1), .int 0, .int 0, .ref a20, .null, .int 0, .int 0]) [.int 0, .int 0, .ref a1, .ref a2, .ref a3, .ref a4, .int 0, .ref a5, .ref a6, .ref a7, .int 0, .int (-1), .ref a8, .ref a9, .ref a10, .int 0, .int 0, .int 0, .int 0, .int 0, .int 0, .int 0, .ref a11, .ref a12, .ref a13, .ref a14, .ref a15, .int (-1), .ref a16, .ref a17, .ref a18, .ref a19, .int (-1), .int 0, .int 0, .ref a20, .ref a21, .int 0, .int 0] (dx_at ck149_9 26 rfl) (show chF 149 88 12 36 = true by decide +kernel) (by omega) ((upW_n (by omega)).trans (upW_s)) (Or.inr ⟨rfl, cn149.2.2.1, by rw [cn149.1]; rfl⟩) rfl rfl (Nat.le_of_ble_eq_true rfl) rfl ?_
  refine b_aload_n (x := x) (dx_at ck149_9 27 rfl) rfl ?_
  refine b_get (i := io) (fs := [.int 0, .int 0, .ref a1, .ref a2, .ref a3, .ref a4, .int 0, .ref a5, .ref a6, .ref a7, .int 0, .int (-1), .ref a8, .ref a9, .ref a10, .int 0, .int 0, .int 0, .int 0, .int 0, .int 0, .int 0, .ref a11, .ref a12, .ref a13, .ref a14, .ref a15, .int (-1), .ref a16, .ref a17, .ref a18, .ref a19, .int (-1), .int 0, .int 0, .ref a20, .ref a21, .int 0, .int 0]) (v := .ref a2) (dx_at ck149_9 28 rfl) (show chF 149 20 12 3 = true by decide +kernel) (by omega) (upW_s) rfl ?_
  refine b_sipush (v := nI 154) (dx_at ck149_9 29 rfl) (by decide) ?_
  refine b_iconst (v := nI 5) (dx_at ck149_9 30 rfl) rfl ?_
  refine b_iast2 (i := K + 1) (n := 4968) (g := (fun _ => 0)) (upd (fun _ => 0) 154 (nI 5)) (dx_at ck149_9 31 rfl) (by omega) ((upW_n (by omega)).trans ((upW_n (by omega)).trans ((upW_n (by omega)).trans ((upW_n (by omega)).trans ((upW_n (by omega)).trans ((upW_n (by omega)).trans ((upW_n (by omega)).trans ((upW_n (by omega)).trans ((upW_n (by omega)).trans ((upW_n (by omega)).trans ((upW_n (by omega)).trans ((upW_n (by omega)).trans ((upW_n (by omega)).trans ((upW_n (by omega)).trans ((upW_n (by omega)).trans ((upW_n (by omega)).trans ((upW_n (by omega)).trans ((upW_n (by omega)).trans ((upW_n (by omega)).trans ((upW_n (by omega)).trans ((upW_n (by omega)).trans ((upW_n (by omega)).trans ((upW_n (by omega)).trans ((upW_n (by omega)).trans ((upW_n (by omega)).trans ((upW_n (by omega)).trans ((upW_n (by omega)).trans ((upW_n (by omega)).trans ((upW_n (by omega)).trans ((upW_n (by omega)).trans ((upW_n (by omega)).trans ((upW_n (by omega)).trans ((upW_n (by omega)).trans ((upW_n (by omega)).trans ((upW_n (by omega)).trans ((upW_n (by omega)).trans ((upW_n (by omega)).trans ((upW_n (by omega)).trans ((upW_n (by omega)).trans ((upW_n (by omega)).trans ((upW_n (by omega)).trans ((upW_n (by omega)).trans (upW_s))))))))))))))))))))))))))))))))))))))))))) (vp_in_nI (by decide) (by decide)) rfl ?_
  refine b_aload_n (x := x) (dx_at ck149_9 32 rfl) rfl ?_
  refine b_get (i := io) (fs := [.int 0, .int 0, .ref a1, .ref a2, .ref a3, .ref a4, .int 0, .ref a5, .ref a6, .ref a7, .int 0, .int (-1), .ref a8, .ref a9, .ref a10, .int 0, .int 0, .int 0, .int 0, .int 0, .int 0, .int 0, .ref a11, .ref a12, .ref a13, .ref a14, .ref a15, .int (-1), .ref a16, .ref a17, .ref a18, .ref a19, .int (-1), .int 0, .int 0, .ref a20, .ref a21, .int 0, .int 0]) (v := .ref a2) (dx_at ck149_9 33 rfl) (show chF 149 20 12 3 = true by decide +kernel) (by omega) ((upW_n (by omega)).trans (upW_s)) rfl ?_
  refine b_sipush (v := nI 155) (dx_at ck149_9 34 rfl) (by decide) ?_
  refine b_iconst (v := nI 2) (dx_at ck149_9 35 rfl) rfl ?_
  refine b_iastT (upd (upd (fun _ => 0) 154 (nI 5)) 155 (nI 2)) (dx_at ck149_10 0 rfl) (by omega) (vp_in_nI (by decide) (by decide)) rfl ?_
  refine b_aload_n (x := x) (dx_at ck149_10 1 rfl) rfl ?_
  refine b_get (i := io) (fs := [.int 0, .int 0, .ref a1, .ref a2, .ref a3, .ref a4, .int 0, .ref a5, .ref a6, .ref a7, .int 0, .int (-1), .ref a8, .ref a9, .ref a10, .int 0, .int 0, .int 0, .int 0, .int 0, .int 0, .int 0, .ref a11, .ref a12, .ref a13, .ref a14, .ref a15, .int (-1), .ref a16, .ref a17, .ref a18, .ref a19, .int (-1), .int 0, .int 0, .ref a20, .ref a21, .int 0, .int 0]) (v := .ref a2) (dx_at ck149_10 2 rfl) (show chF 149 20 12 3 = true by decide +kernel) (by omega) ((upW_n (by omega)).trans (upW_s)) rfl ?_
  refine b_sipush (v := nI 156) (dx_at ck149_10 3 rfl) (by decide) ?_
  refine b_iconst (v := nI 1) (dx_at ck149_10 4 rfl) rfl ?_
  refine b_iastT (upd (upd (upd (fun _ => 0) 154 (nI 5)) 155 (nI 2)) 156 (nI 1)) (dx_at ck149_10 5 rfl) (by omega) (vp_in_nI (by decide) (by decide)) rfl ?_
  refine b_aload_n (x := x) (dx_at ck149_10 6 rfl) rfl ?_
  refine b_get (i := io) (fs := [.int 0, .int 0, .ref a1, .ref a2, .ref a3, .ref a4, .int 0, .ref a5, .ref a6, .ref a7, .int 0, .int (-1), .ref a8, .ref a9, .ref a10, .int 0, .int 0, .int 0, .int 0, .int 0, .int 0, .int 0, .ref a11, .ref a12, .ref a13, .ref a14, .ref a15, .int (-1), .ref a16, .ref a17, .ref a18, .ref a19, .int (-1), .int 0, .int 0, .ref a20, .ref a21, .int 0, .int 0]) (v := .ref a2) (dx_at ck149_10 7 rfl) (show chF 149 20 12 3 = true by decide +kernel) (by omega) ((upW_n (by omega)).trans (upW_s)) rfl ?_
  refine b_sipush (v := nI 161) (dx_at ck149_10 8 rfl) (by decide) ?_
  refine b_iconst (v := -1) (dx_at ck149_10 9 rfl) rfl ?_
  refine b_iastT (upd (upd (upd (upd (fun _ => 0) 154 (nI 5)) 155 (nI 2)) 156 (nI 1)) 161 (-1)) (dx_at ck149_10 10 rfl) (by omega) (vp_in_nI (by decide) (by decide)) rfl ?_
  refine b_vret (dx_at ck149_10 11 rfl) cn149.2.1 ⟨rfl, rfl, a1, a2, a3, a4, a5, a6, a7, a8, a9, a10, a11, a12, a13, a14, a15, a16, a17, a18, a19, a20, a21, ?_⟩
  refine ⟨(upW_n (by omega)).trans (upW_s), ?_⟩
  refine ⟨(upW_n (by omega)).trans ((upW_n (by omega)).trans ((upW_n (by omega)).trans ((upW_n (by omega)).trans ((upW_n (by omega)).trans ((upW_n (by omega)).trans ((upW_n (by omega)).trans ((upW_n (by omega)).trans ((upW_n (by omega)).trans ((upW_n (by omega)).trans ((upW_n (by omega)).trans ((upW_n (by omega)).trans ((upW_n (by omega)).trans ((upW_n (by omega)).trans ((upW_n (by omega)).trans ((upW_n (by omega)).trans ((upW_n (by omega)).trans ((upW_n (by omega)).trans ((upW_n (by omega)).trans ((upW_n (by omega)).trans ((upW_n (by omega)).trans ((upW_n (by omega)).trans ((upW_n (by omega)).trans ((upW_n (by omega)).trans ((upW_n (by omega)).trans ((upW_n (by omega)).trans ((upW_n (by omega)).trans ((upW_n (by omega)).trans ((upW_n (by omega)).trans ((upW_n (by omega)).trans ((upW_n (by omega)).trans ((upW_n (by omega)).trans ((upW_n (by omega)).trans ((upW_n (by omega)).trans ((upW_n (by omega)).trans ((upW_n (by omega)).trans ((upW_n (by omega)).trans ((upW_n (by omega)).trans ((upW_n (by omega)).trans ((upW_n (by omega)).trans ((upW_n (by omega)).trans ((upW_n (by omega)).trans ((upW_n (by omega)).trans ((upW_n (by omega)).trans ((upW_n (by omega)).trans (upW_s))))))))))))))))))))))))))))))))))))))))))))), ?_⟩
  refine ⟨upW_s, ?_⟩
  refine ⟨(upW_n (by omega)).trans ((upW_n (by omega)).trans ((upW_n (by omega)).trans ((upW_n (by omega)).trans ((upW_n (by omega)).trans ((upW_n (by omega)).trans ((upW_n (by omega)).trans ((upW_n (by omega)).trans ((upW_n (by omega)).trans ((upW_n (by omega)).trans ((upW_n (by omega)).trans ((upW_n (by omega)).trans ((upW_n (by omega)).trans ((upW_n (by omega)).trans ((upW_n (by omega)).trans ((upW_n (by omega)).trans ((upW_n (by omega)).trans ((upW_n (by omega)).trans ((upW_n (by omega)).trans ((upW_n (by omega)).trans ((upW_n (by omega)).trans ((upW_n (by omega)).trans ((upW_n (by omega)).trans ((upW_n (by omega)).trans ((upW_n (by omega)).trans ((upW_n (by omega)).trans ((upW_n (by omega)).trans ((upW_n (by omega)).trans ((upW_n (by omega)).trans ((upW_n (by omega)).trans ((upW_n (by omega)).trans ((upW_n (by omega)).trans ((upW_n (by omega)).trans ((upW_n (by omega)).trans ((upW_n (by omega)).trans ((upW_n (by omega)).trans ((upW_n (by omega)).trans ((upW_n (by omega)).trans ((upW_n (by omega)).trans ((upW_n (by omega)).trans ((upW_n (by omega)).trans (upW_s))))))))))))))))))))))))))))))))))))))))), ?_⟩
  refine ⟨(upW_n (by omega)).trans ((upW_n (by omega)).trans ((upW_n (by omega)).trans ((upW_n (by omega)).trans ((upW_n (by omega)).trans ((upW_n (by omega)).trans ((upW_n (by omega)).trans ((upW_n (by omega)).trans ((upW_n (by omega)).trans ((upW_n (by omega)).trans ((upW_n (by omega)).trans ((upW_n (by omega)).trans ((upW_n (by omega)).trans ((upW_n (by omega)).trans ((upW_n (by omega)).trans ((upW_n (by omega)).trans ((upW_n (by omega)).trans ((upW_n (by omega)).trans ((upW_n (by omega)).trans ((upW_n (by omega)).trans ((upW_n (by omega)).trans ((upW_n (by omega)).trans ((upW_n (by omega)).trans ((upW_n (by omega)).trans ((upW_n (by omega)).trans ((upW_n (by omega)).trans ((upW_n (by omega)).trans ((upW_n (by omega)).trans ((upW_n (by omega)).trans ((upW_n (by omega)).trans ((upW_n (by omega)).trans ((upW_n (by omega)).trans ((upW_n (by omega)).trans ((upW_n (by omega)).trans ((upW_n (by omega)).trans ((upW_n (by omega)).trans ((upW_n (by omega)).trans ((upW_n (by omega)).trans ((upW_n (by omega)).trans (upW_s))))))))))))))))))))))))))))))))))))))), ?_⟩
  refine ⟨(upW_n (by omega)).trans ((upW_n (by omega)).trans ((upW_n (by omega)).trans ((upW_n (by omega)).trans ((upW_n (by omega)).trans ((upW_n (by omega)).trans ((upW_n (by omega)).trans ((upW_n (by omega)).trans ((upW_n (by omega)).trans ((upW_n (by omega)).trans ((upW_n (by omega)).trans ((upW_n (by omega)).trans ((upW_n (by omega)).trans ((upW_n (by omega)).trans ((upW_n (by omega)).trans ((upW_n (by omega)).trans ((upW_n (by omega)).trans ((upW_n (by omega)).trans ((upW_n (by omega)).trans ((upW_n (by omega)).trans ((upW_n (by omega)).trans ((upW_n (by omega)).trans ((upW_n (by omega)).trans ((upW_n (by omega)).trans ((upW_n (by omega)).trans ((upW_n (by omega)).trans ((upW_n (by omega)).trans ((upW_n (by omega)).trans ((upW_n (by omega)).trans ((upW_n (by omega)).trans ((upW_n (by omega)).trans ((upW_n (by omega)).trans ((upW_n (by omega)).trans ((upW_n (by omega)).trans ((upW_n (by omega)).trans ((upW_n (by omega)).trans ((upW_n (by omega)).trans (upW_s))))))))))))))))))))))))))))))))))))), ?_⟩
  refine ⟨(upW_n (by omega)).trans ((upW_n (by omega)).trans ((upW_n (by omega)).trans ((upW_n (by omega)).trans ((upW_n (by omega)).trans ((upW_n (by omega)).trans ((upW_n (by omega)).trans ((upW_n (by omega)).trans ((upW_n (by omega)).trans ((upW_n (by omega)).trans ((upW_n (by omega)).trans ((upW_n (by omega)).trans ((upW_n (by omega)).trans ((upW_n (by omega)).trans ((upW_n (by omega)).trans ((upW_n (by omega)).trans ((upW_n (by omega)).trans ((upW_n (by omega)).trans ((upW_n (by omega)).trans ((upW_n (by omega)).trans ((upW_n (by omega)).trans ((upW_n (by omega)).trans ((upW_n (by omega)).trans ((upW_n (by omega)).trans ((upW_n (by omega)).trans ((upW_n (by omega)).trans ((upW_n (by omega)).trans ((upW_n (by omega)).trans ((upW_n (by omega)).trans ((upW_n (by omega)).trans ((upW_n (by omega)).trans ((upW_n (by omega)).trans ((upW_n (by omega)).trans ((upW_n (by omega)).trans ((upW_n (by omega)).trans (upW_s))))))))))))))))))))))))))))))))))), ?_⟩
  refine ⟨(upW_n (by omega)).trans ((upW_n (by omega)).trans ((upW_n (by omega)).trans ((upW_n (by omega)).trans ((upW_n (by omega)).trans ((upW_n (by omega)).trans ((upW_n (by omega)).trans ((upW_n (by omega)).trans ((upW_n (by omega)).trans ((upW_n (by omega)).trans ((upW_n (by omega)).trans ((upW_n (by omega)).trans ((upW_n (by omega)).trans ((upW_n (by omega)).trans ((upW_n (by omega)).trans ((upW_n (by omega)).trans ((upW_n (by omega)).trans ((upW_n (by omega)).trans ((upW_n (by omega)).trans ((upW_n (by omega)).trans ((upW_n (by omega)).trans ((upW_n (by omega)).trans ((upW_n (by omega)).trans ((upW_n (by omega)).trans ((upW_n (by omega)).trans ((upW_n (by omega)).trans ((upW_n (by omega)).trans ((upW_n (by omega)).trans ((upW_n (by omega)).trans ((upW_n (by omega)).trans ((upW_n (by omega)).trans ((upW_n (by omega)).trans ((upW_n (by omega)).trans (upW_s))))))))))))))))))))))))))))))))), ?_⟩
  refine ⟨(upW_n (by omega)).trans ((upW_n (by omega)).trans ((upW_n (by omega)).trans ((upW_n (by omega)).trans ((upW_n (by omega)).trans ((upW_n (by omega)).trans ((upW_n (by omega)).trans ((upW_n (by omega)).trans ((upW_n (by omega)).trans ((upW_n (by omega)).trans ((upW_n (by omega)).trans ((upW_n (by omega)).trans ((upW_n (by omega)).trans ((upW_n (by omega)).trans ((upW_n (by omega)).trans ((upW_n (by omega)).trans ((upW_n (by omega)).trans ((upW_n (by omega)).trans ((upW_n (by omega)).trans ((upW_n (by omega)).trans ((upW_n (by omega)).trans ((upW_n (by omega)).trans ((upW_n (by omega)).trans ((upW_n (by omega)).trans ((upW_n (by omega)).trans ((upW_n (by omega)).trans ((upW_n (by omega)).trans ((upW_n (by omega)).trans ((upW_n (by omega)).trans ((upW_n (by omega)).trans (upW_s)))))))))))))))))))))))))))))), ?_⟩
  refine ⟨(upW_n (by omega)).trans ((upW_n (by omega)).trans ((upW_n (by omega)).trans ((upW_n (by omega)).trans ((upW_n (by omega)).trans ((upW_n (by omega)).trans ((upW_n (by omega)).trans ((upW_n (by omega)).trans ((upW_n (by omega)).trans ((upW_n (by omega)).trans ((upW_n (by omega)).trans ((upW_n (by omega)).trans ((upW_n (by omega)).trans ((upW_n (by omega)).trans ((upW_n (by omega)).trans ((upW_n (by omega)).trans ((upW_n (by omega)).trans ((upW_n (by omega)).trans ((upW_n (by omega)).trans ((upW_n (by omega)).trans ((upW_n (by omega)).trans ((upW_n (by omega)).trans ((upW_n (by omega)).trans ((upW_n (by omega)).trans ((upW_n (by omega)).trans ((upW_n (by omega)).trans ((upW_n (by omega)).trans ((upW_n (by omega)).trans (upW_s)))))))))))))))))))))))))))), ?_⟩
  refine ⟨(upW_n (by omega)).trans ((upW_n (by omega)).trans ((upW_n (by omega)).trans ((upW_n (by omega)).trans ((upW_n (by omega)).trans ((upW_n (by omega)).trans ((upW_n (by omega)).trans ((upW_n (by omega)).trans ((upW_n (by omega)).trans ((upW_n (by omega)).trans ((upW_n (by omega)).trans ((upW_n (by omega)).trans ((upW_n (by omega)).trans ((upW_n (by omega)).trans ((upW_n (by omega)).trans ((upW_n (by omega)).trans ((upW_n (by omega)).trans ((upW_n (by omega)).trans ((upW_n (by omega)).trans ((upW_n (by omega)).trans ((upW_n (by omega)).trans ((upW_n (by omega)).trans ((upW_n (by omega)).trans ((upW_n (by omega)).trans ((upW_n (by omega)).trans ((upW_n (by omega)).trans (upW_s)))))))))))))))))))))))))), ?_⟩
  refine ⟨(upW_n (by omega)).trans ((upW_n (by omega)).trans ((upW_n (by omega)).trans ((upW_n (by omega)).trans ((upW_n (by omega)).trans ((upW_n (by omega)).trans ((upW_n (by omega)).trans ((upW_n (by omega)).trans ((upW_n (by omega)).trans ((upW_n (by omega)).trans ((upW_n (by omega)).trans ((upW_n (by omega)).trans ((upW_n (by omega)).trans ((upW_n (by omega)).trans ((upW_n (by omega)).trans ((upW_n (by omega)).trans ((upW_n (by omega)).trans ((upW_n (by omega)).trans ((upW_n (by omega)).trans ((upW_n (by omega)).trans ((upW_n (by omega)).trans ((upW_n (by omega)).trans ((upW_n (by omega)).trans ((upW_n (by omega)).trans (upW_s)))))))))))))))))))))))), ?_⟩
  refine ⟨(upW_n (by omega)).trans ((upW_n (by omega)).trans ((upW_n (by omega)).trans ((upW_n (by omega)).trans ((upW_n (by omega)).trans ((upW_n (by omega)).trans ((upW_n (by omega)).trans ((upW_n (by omega)).trans ((upW_n (by omega)).trans ((upW_n (by omega)).trans ((upW_n (by omega)).trans ((upW_n (by omega)).trans ((upW_n (by omega)).trans ((upW_n (by omega)).trans ((upW_n (by omega)).trans ((upW_n (by omega)).trans ((upW_n (by omega)).trans ((upW_n (by omega)).trans ((upW_n (by omega)).trans ((upW_n (by omega)).trans ((upW_n (by omega)).trans ((upW_n (by omega)).trans (upW_s)))))))))))))))))))))), ?_⟩
  refine ⟨(upW_n (by omega)).trans ((upW_n (by omega)).trans ((upW_n (by omega)).trans ((upW_n (by omega)).trans ((upW_n (by omega)).trans ((upW_n (by omega)).trans ((upW_n (by omega)).trans ((upW_n (by omega)).trans ((upW_n (by omega)).trans ((upW_n (by omega)).trans ((upW_n (by omega)).trans ((upW_n (by omega)).trans ((upW_n (by omega)).trans ((upW_n (by omega)).trans ((upW_n (by omega)).trans ((upW_n (by omega)).trans ((upW_n (by omega)).trans ((upW_n (by omega)).trans ((upW_n (by omega)).trans ((upW_n (by omega)).trans (upW_s)))))))))))))))))))), ?_⟩
  refine ⟨(upW_n (by omega)).trans ((upW_n (by omega)).trans ((upW_n (by omega)).trans ((upW_n (by omega)).trans ((upW_n (by omega)).trans ((upW_n (by omega)).trans ((upW_n (by omega)).trans ((upW_n (by omega)).trans ((upW_n (by omega)).trans ((upW_n (by omega)).trans ((upW_n (by omega)).trans ((upW_n (by omega)).trans ((upW_n (by omega)).trans ((upW_n (by omega)).trans ((upW_n (by omega)).trans ((upW_n (by omega)).trans ((upW_n (by omega)).trans ((upW_n (by omega)).trans (upW_s)))))))))))))))))), ?_⟩
  refine ⟨(upW_n (by omega)).trans ((upW_n (by omega)).trans ((upW_n (by omega)).trans ((upW_n (by omega)).trans ((upW_n (by omega)).trans ((upW_n (by omega)).trans ((upW_n (by omega)).trans ((upW_n (by omega)).trans ((upW_n (by omega)).trans ((upW_n (by omega)).trans ((upW_n (by omega)).trans ((upW_n (by omega)).trans ((upW_n (by omega)).trans ((upW_n (by omega)).trans ((upW_n (by omega)).trans ((upW_n (by omega)).trans (upW_s)))))))))))))))), ?_⟩
  refine ⟨(upW_n (by omega)).trans ((upW_n (by omega)).trans ((upW_n (by omega)).trans ((upW_n (by omega)).trans ((upW_n (by omega)).trans ((upW_n (by omega)).trans ((upW_n (by omega)).trans ((upW_n (by omega)).trans ((upW_n (by omega)).trans ((upW_n (by omega)).trans ((upW_n (by omega)).trans ((upW_n (by omega)).trans ((upW_n (by omega)).trans (upW_s))))))))))))), ?_⟩
  refine ⟨(upW_n (by omega)).trans ((upW_n (by omega)).trans ((upW_n (by omega)).trans ((upW_n (by omega)).trans ((upW_n (by omega)).trans ((upW_n (by omega)).trans ((upW_n (by omega)).trans ((upW_n (by omega)).trans ((upW_n (by omega)).trans ((upW_n (by omega)).trans ((upW_n (by omega)).trans (upW_s))))))))))), ?_⟩
  refine ⟨(upW_n (by omega)).trans ((upW_n (by omega)).trans ((upW_n (by omega)).trans ((upW_n (by omega)).trans ((upW_n (by omega)).trans ((upW_n (by omega)).trans ((upW_n (by omega)).trans ((upW_n (by omega)).trans ((upW_n (by omega)).trans (upW_s))))))))), ?_⟩
  refine ⟨(upW_n (by omega)).trans ((upW_n (by omega)).trans ((upW_n (by omega)).trans ((upW_n (by omega)).trans ((upW_n (by omega)).trans ((upW_n (by omega)).trans ((upW_n (by omega)).trans (upW_s))))))), ?_⟩
  refine ⟨(upW_n (by omega)).trans ((upW_n (by omega)).trans ((upW_n (by omega)).trans ((upW_n (by omega)).trans (upW_s)))), ?_⟩
  refine ⟨(upW_n (by omega)).trans ((upW_n (by omega)).trans (upW_s)), ?_⟩
  exact fun i hi ni => (upW_n (by omega)).trans ((upW_n (by omega)).trans ((upW_n (by omega)).trans ((upW_n (by omega)).trans ((upW_n (by omega)).trans ((upW_n (by omega)).trans ((upW_n (by omega)).trans ((upW_n (by omega)).trans ((upW_n (by omega)).trans ((upW_n (by omega)).trans ((upW_n (by omega)).trans ((upW_n (by omega)).trans ((upW_n (by omega)).trans ((upW_n (by omega)).trans ((upW_n (by omega)).trans ((upW_n (by omega)).trans ((upW_n (by omega)).trans ((upW_n (by omega)).trans ((upW_n (by omega)).trans ((upW_n (by omega)).trans ((upW_n (by omega)).trans ((upW_n (by omega)).trans ((upW_n (by omega)).trans ((upW_n (by omega)).trans ((upW_n (by omega)).trans ((upW_n (by omega)).trans ((upW_n (by omega)).trans ((upW_n (by omega)).trans ((upW_n (by omega)).trans ((upW_n (by omega)).trans ((upW_n (by omega)).trans ((upW_n (by omega)).trans ((upW_n (by omega)).trans ((upW_n (by omega)).trans ((upW_n (by omega)).trans ((upW_n (by omega)).trans ((upW_n (by omega)).trans ((upW_n (by omega)).trans ((upW_n (by omega)).trans ((upW_n (by omega)).trans ((upW_n (by omega)).trans ((upW_n (by omega)).trans ((upW_n (by omega)).trans ((upW_n (by omega)).trans ((upW_n (by omega)).trans (upW_n (by omega))))))))))))))))))))))))))))))))))))))))))))))
