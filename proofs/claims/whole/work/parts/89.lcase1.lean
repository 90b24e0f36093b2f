/-! ===== the law's cases ===== -/
theorem dt9_0 : th_dec code [(236, .aload_n 1, 1), (237, .aload_n 0, 1), (238, .iload 4, 2), (240, .iconst 1, 1), (241, .iadd, 1), (242, .iaload, 1), (243, .aload_n 0, 1), (244, .iload 4, 2), (246, .iconst 2, 1), (247, .iadd, 1), (248, .iaload, 1), (249, .invokevirtual 25, 3), (252, .aload_n 2, 1), (253, .aload_n 0, 1), (254, .iload 4, 2), (256, .iconst 1, 1), (257, .iadd, 1), (258, .iaload, 1), (259, .aload_n 0, 1), (260, .iload 4, 2), (262, .iconst 2, 1), (263, .iadd, 1), (264, .iaload, 1), (265, .invokevirtual 28, 3), (268, .if_icmp .eq 1552, 3)] = true := by decide +kernel
theorem dt9_1 : th_dec code [(273, .aload_n 1, 1), (274, .aload_n 0, 1), (275, .iload 4, 2), (277, .iconst 1, 1), (278, .iadd, 1), (279, .iaload, 1), (280, .aload_n 0, 1), (281, .iload 4, 2), (283, .iconst 2, 1), (284, .iadd, 1), (285, .iaload, 1), (286, .aload_n 0, 1), (287, .iload 4, 2), (289, .iconst 3, 1), (290, .iadd, 1), (291, .iaload, 1), (292, .aload_n 0, 1), (293, .iload 4, 2), (295, .iconst 4, 1), (296, .iadd, 1), (297, .iaload, 1), (298, .aload_n 0, 1), (299, .iload 4, 2), (301, .iconst 5, 1), (302, .iadd, 1), (303, .iaload, 1), (304, .invokevirtual 29, 3), (307, .aload_n 2, 1), (308, .aload_n 0, 1), (309, .iload 4, 2), (311, .iconst 1, 1), (312, .iadd, 1), (313, .iaload, 1), (314, .aload_n 0, 1), (315, .iload 4, 2), (317, .iconst 2, 1), (318, .iadd, 1), (319, .iaload, 1), (320, .aload_n 0, 1), (321, .iload 4, 2), (323, .iconst 3, 1), (324, .iadd, 1), (325, .iaload, 1), (326, .aload_n 0, 1), (327, .iload 4, 2), (329, .iconst 4, 1), (330, .iadd, 1), (331, .iaload, 1), (332, .aload_n 0, 1), (333, .iload 4, 2), (335, .iconst 5, 1), (336, .iadd, 1), (337, .iaload, 1), (338, .invokevirtual 33, 3), (341, .if_icmp .eq 1479, 3)] = true := by decide +kernel
theorem dt9_2 : th_dec code [(346, .aload_n 1, 1), (347, .aload_n 0, 1), (348, .iload 4, 2), (350, .iconst 1, 1), (351, .iadd, 1), (352, .iaload, 1), (353, .invokevirtual 34, 3), (356, .aload_n 2, 1), (357, .aload_n 0, 1), (358, .iload 4, 2), (360, .iconst 1, 1), (361, .iadd, 1), (362, .iaload, 1), (363, .invokevirtual 38, 3), (366, .if_icmp .eq 1454, 3)] = true := by decide +kernel
theorem dt9_3 : th_dec code [(371, .aload_n 1, 1), (372, .aload_n 0, 1), (373, .iload 4, 2), (375, .iconst 1, 1), (376, .iadd, 1), (377, .iaload, 1), (378, .aload_n 0, 1), (379, .iload 4, 2), (381, .iconst 2, 1), (382, .iadd, 1), (383, .iaload, 1), (384, .aload_n 0, 1), (385, .iload 4, 2), (387, .iconst 3, 1), (388, .iadd, 1), (389, .iaload, 1), (390, .invokevirtual 39, 3), (393, .aload_n 2, 1), (394, .aload_n 0, 1), (395, .iload 4, 2), (397, .iconst 1, 1), (398, .iadd, 1), (399, .iaload, 1), (400, .aload_n 0, 1), (401, .iload 4, 2), (403, .iconst 2, 1), (404, .iadd, 1), (405, .iaload, 1), (406, .aload_n 0, 1), (407, .iload 4, 2), (409, .iconst 3, 1), (410, .iadd, 1), (411, .iaload, 1), (412, .invokevirtual 43, 3), (415, .if_icmp .eq 1405, 3)] = true := by decide +kernel
theorem dt9_4 : th_dec code [(420, .aload_n 1, 1), (421, .aload_n 0, 1), (422, .iload 4, 2), (424, .iconst 1, 1), (425, .iadd, 1), (426, .iaload, 1), (427, .aload_n 0, 1), (428, .iload 4, 2), (430, .iconst 2, 1), (431, .iadd, 1), (432, .iaload, 1), (433, .ifCond .eq 7, 3), (436, .iconst 1, 1), (437, .goto 4, 3), (440, .iconst 0, 1), (441, .invokevirtual 44, 3), (444, .aload_n 2, 1), (445, .aload_n 0, 1), (446, .iload 4, 2), (448, .iconst 1, 1), (449, .iadd, 1), (450, .iaload, 1), (451, .aload_n 0, 1), (452, .iload 4, 2), (454, .iconst 2, 1), (455, .iadd, 1), (456, .iaload, 1), (457, .ifCond .eq 7, 3), (460, .iconst 1, 1), (461, .goto 4, 3), (464, .iconst 0, 1), (465, .invokevirtual 48, 3), (468, .if_icmp .eq 1352, 3)] = true := by decide +kernel
theorem dt9_5 : th_dec code [(473, .aload_n 1, 1), (474, .aload_n 0, 1), (475, .iload 4, 2), (477, .iconst 1, 1), (478, .iadd, 1), (479, .iaload, 1), (480, .aload_n 0, 1), (481, .iload 4, 2), (483, .iconst 2, 1), (484, .iadd, 1), (485, .iaload, 1), (486, .invokevirtual 49, 3), (489, .aload_n 2, 1), (490, .aload_n 0, 1), (491, .iload 4, 2), (493, .iconst 1, 1), (494, .iadd, 1), (495, .iaload, 1), (496, .aload_n 0, 1), (497, .iload 4, 2), (499, .iconst 2, 1), (500, .iadd, 1), (501, .iaload, 1), (502, .invokevirtual 52, 3), (505, .if_icmp .eq 1315, 3)] = true := by decide +kernel
theorem dt9_6 : th_dec code [(510, .aload_n 1, 1), (511, .aload_n 0, 1), (512, .iload 4, 2), (514, .iconst 1, 1), (515, .iadd, 1), (516, .iaload, 1), (517, .aload_n 0, 1), (518, .iload 4, 2), (520, .iconst 2, 1), (521, .iadd, 1), (522, .iaload, 1), (523, .invokevirtual 53, 3), (526, .aload_n 2, 1), (527, .aload_n 0, 1), (528, .iload 4, 2), (530, .iconst 1, 1), (531, .iadd, 1), (532, .iaload, 1), (533, .aload_n 0, 1), (534, .iload 4, 2), (536, .iconst 2, 1), (537, .iadd, 1), (538, .iaload, 1), (539, .invokevirtual 56, 3), (542, .if_icmp .eq 1278, 3)] = true := by decide +kernel
theorem dt9_7 : th_dec code [(547, .aload_n 1, 1), (548, .aload_n 0, 1), (549, .iload 4, 2), (551, .iconst 1, 1), (552, .iadd, 1), (553, .iaload, 1), (554, .invokevirtual 57, 3), (557, .aload_n 2, 1), (558, .aload_n 0, 1), (559, .iload 4, 2), (561, .iconst 1, 1), (562, .iadd, 1), (563, .iaload, 1), (564, .invokevirtual 60, 3), (567, .if_icmp .eq 1253, 3)] = true := by decide +kernel
theorem dt9_8 : th_dec code [(572, .aload_n 1, 1), (573, .aload_n 0, 1), (574, .iload 4, 2), (576, .iconst 1, 1), (577, .iadd, 1), (578, .iaload, 1), (579, .invokevirtual 61, 3), (582, .aload_n 2, 1), (583, .aload_n 0, 1), (584, .iload 4, 2), (586, .iconst 1, 1), (587, .iadd, 1), (588, .iaload, 1), (589, .invokevirtual 64, 3), (592, .if_icmp .eq 1228, 3)] = true := by decide +kernel
theorem dt9_9 : th_dec code [(597, .aload_n 1, 1), (598, .aload_n 0, 1), (599, .iload 4, 2), (601, .iconst 1, 1), (602, .iadd, 1), (603, .iaload, 1), (604, .invokevirtual 65, 3), (607, .aload_n 2, 1), (608, .aload_n 0, 1), (609, .iload 4, 2), (611, .iconst 1, 1), (612, .iadd, 1), (613, .iaload, 1), (614, .invokevirtual 68, 3), (617, .if_icmp .eq 1203, 3)] = true := by decide +kernel
theorem dt9_10 : th_dec code [(622, .aload_n 1, 1), (623, .invokevirtual 69, 3), (626, .aload_n 2, 1), (627, .invokevirtual 73, 3), (630, .if_icmp .eq 1190, 3)] = true := by decide +kernel
theorem dt9_11 : th_dec code [(635, .aload_n 1, 1), (636, .aload_n 0, 1), (637, .iload 4, 2), (639, .iconst 1, 1), (640, .iadd, 1), (641, .iaload, 1), (642, .invokevirtual 74, 3), (645, .aload_n 2, 1), (646, .aload_n 0, 1), (647, .iload 4, 2), (649, .iconst 1, 1), (650, .iadd, 1), (651, .iaload, 1), (652, .invokevirtual 78, 3), (655, .if_icmp .eq 1165, 3)] = true := by decide +kernel
theorem dt9_12 : th_dec code [(660, .aload_n 1, 1), (661, .aload_n 0, 1), (662, .iload 4, 2), (664, .iconst 1, 1), (665, .iadd, 1), (666, .iaload, 1), (667, .invokevirtual 79, 3), (670, .aload_n 2, 1), (671, .aload_n 0, 1), (672, .iload 4, 2), (674, .iconst 1, 1), (675, .iadd, 1), (676, .iaload, 1), (677, .invokevirtual 82, 3), (680, .if_icmp .eq 1140, 3)] = true := by decide +kernel
theorem dt9_13 : th_dec code [(685, .aload_n 1, 1), (686, .aload_n 0, 1), (687, .iload 4, 2), (689, .iconst 1, 1), (690, .iadd, 1), (691, .iaload, 1), (692, .aload_n 0, 1), (693, .iload 4, 2), (695, .iconst 2, 1), (696, .iadd, 1), (697, .iaload, 1), (698, .invokevirtual 83, 3), (701, .aload_n 2, 1), (702, .aload_n 0, 1), (703, .iload 4, 2), (705, .iconst 1, 1), (706, .iadd, 1), (707, .iaload, 1), (708, .aload_n 0, 1), (709, .iload 4, 2), (711, .iconst 2, 1), (712, .iadd, 1), (713, .iaload, 1), (714, .invokevirtual 86, 3), (717, .if_icmp .eq 1103, 3)] = true := by decide +kernel
theorem dt9_14 : th_dec code [(722, .aload_n 1, 1), (723, .aload_n 0, 1), (724, .iload 4, 2), (726, .iconst 1, 1), (727, .iadd, 1), (728, .iaload, 1), (729, .aload_n 0, 1), (730, .iload 4, 2), (732, .iconst 2, 1), (733, .iadd, 1), (734, .iaload, 1), (735, .aload_n 3, 1), (736, .invokestatic 87, 3), (739, .istore 5, 2), (741, .aload_n 2, 1), (742, .aload_n 0, 1), (743, .iload 4, 2), (745, .iconst 1, 1), (746, .iadd, 1), (747, .iaload, 1), (748, .aload_n 0, 1), (749, .iload 4, 2), (751, .iconst 2, 1), (752, .iadd, 1), (753, .iaload, 1), (754, .invokevirtual 92, 3), (757, .istore 6, 2), (759, .aload_n 2, 1), (760, .invokevirtual 93, 3), (763, .iload 5, 2), (765, .if_icmp .eq 5, 3), (770, .iload 5, 2), (772, .ifCond .ne 15, 3), (787, .goto 1033, 3), (722, .aload_n 1, 1), (723, .aload_n 0, 1), (724, .iload 4, 2), (726, .iconst 1, 1), (727, .iadd, 1), (728, .iaload, 1), (729, .aload_n 0, 1), (730, .iload 4, 2), (732, .iconst 2, 1), (733, .iadd, 1), (734, .iaload, 1), (735, .aload_n 3, 1), (736, .invokestatic 87, 3), (739, .istore 5, 2), (741, .aload_n 2, 1), (742, .aload_n 0, 1), (743, .iload 4, 2), (745, .iconst 1, 1), (746, .iadd, 1), (747, .iaload, 1), (748, .aload_n 0, 1), (749, .iload 4, 2), (751, .iconst 2, 1), (752, .iadd, 1), (753, .iaload, 1), (754, .invokevirtual 92, 3), (757, .istore 6, 2), (759, .aload_n 2, 1), (760, .invokevirtual 93, 3), (763, .iload 5, 2), (765, .if_icmp .eq 5, 3), (770, .iload 5, 2), (772, .ifCond .ne 15, 3), (775, .aload_n 3, 1), (776, .iconst 0, 1), (777, .laload, 1), (778, .iload 6, 2), (780, .i2l, 1), (781, .lcmp, 1), (782, .ifCond .eq 5, 3), (787, .goto 1033, 3)] = true := by decide +kernel
section
variable {p : Program} {l : Launch} {e : Env} {s : State} {m : MethodId} {below : List Frame} {meth : Method} {c : Code} {b L : Nat} {xs : Nat → Int32} {D : va_G} {cI cZ cJ : ClassId} {adC adM : Nat → Nat} {qo sa : Nat} {h mm : th_H} {o : Int64} {cells slots i n : Nat}
set_option maxHeartbeats 4000000 in
set_option maxRecDepth 100000 in
/-- link -/
theorem lc_0 (X : lw_X p s m meth c b L xs D cI cZ cJ adC adM qo sa) (hL : L ≤ 3072) (hi : i + 6 ≤ L) (hn : n < 512) (hR : Rel n h mm) (hcs : cells + 1 ≤ 1134 ∧ slots + 6 ≤ 14355) (kk : ∀ h2 m2 o2, Rel (n + 1) h2 m2 → lw_V p l e s m below meth c b D cI cZ cJ adC adM qo (cells + 1) (slots + 6) 23 (i + 6) [] [] h2 m2 o2) : lw_V p l e s m below meth c b D cI cZ cJ adC adM qo cells slots 236 i [] [] h mm o := by
  obtain ⟨r, h2, m2, e1, e2, hR2⟩ := s_link (xs (i + 1)) (xs (i + 2)) n h mm hn hR
  have hc0 : cells ≤ 1134 ∧ slots ≤ 14355 := ⟨by omega, by omega⟩
  refine L_ald1 (pc := 236) X (th_da dt9_0 0 rfl) ?_
  refine L_arg (pc := 237) (j := 1) X hL hi (by decide) (by decide) (th_da dt9_0 1 rfl) (th_da dt9_0 2 rfl) (th_da dt9_0 3 rfl) (th_da dt9_0 4 rfl) (th_da dt9_0 5 rfl) ?_
  refine L_arg (pc := 243) (j := 2) X hL hi (by decide) (by decide) (th_da dt9_0 6 rfl) (th_da dt9_0 7 rfl) (th_da dt9_0 8 rfl) (th_da dt9_0 9 rfl) (th_da dt9_0 10 rfl) ?_
  refine L_callC (pc := 249) (st := []) X hc0 [xs (i + 1), xs (i + 2)] (th_da dt9_0 11 rfl) (mX3_link l _ _ _ _ _ e1) w9cd_X3_link w9ml_25 w9im_X3_link w9se_X3_link w9in_X3 h9_X3_link ⟨Nat.le_of_ble_eq_true rfl, Nat.le_of_ble_eq_true rfl⟩ (Nat.le_of_ble_eq_true rfl) rfl ?_
  refine L_ald2 (pc := 252) X (th_da dt9_0 12 rfl) ?_
  refine L_arg (pc := 253) (j := 1) X hL hi (by decide) (by decide) (th_da dt9_0 13 rfl) (th_da dt9_0 14 rfl) (th_da dt9_0 15 rfl) (th_da dt9_0 16 rfl) (th_da dt9_0 17 rfl) ?_
  refine L_arg (pc := 259) (j := 2) X hL hi (by decide) (by decide) (th_da dt9_0 18 rfl) (th_da dt9_0 19 rfl) (th_da dt9_0 20 rfl) (th_da dt9_0 21 rfl) (th_da dt9_0 22 rfl) ?_
  refine L_callM (pc := 265) (st := [.int r]) X hc0 [xs (i + 1), xs (i + 2)] (th_da dt9_0 23 rfl) (mX4_link l _ _ _ _ _ e2) w9cd_X4_link w9ml_28 w9im_X4_link w9se_X4_link w9in_X4 h9_X4_link ⟨Nat.le_of_ble_eq_true rfl, Nat.le_of_ble_eq_true rfl⟩ (Nat.le_of_ble_eq_true rfl) rfl ?_
  refine L_eq (pc := 268) (tgt := 1820) X (th_da dt9_0 24 rfl) (by decide) ?_
  exact L_wide (Nat.le_add_right _ _) (Nat.le_add_right _ _) (L_next X (kk h2 m2 o hR2))
set_option maxHeartbeats 4000000 in
set_option maxRecDepth 100000 in
/-- come -/
theorem lc_1 (X : lw_X p s m meth c b L xs D cI cZ cJ adC adM qo sa) (hL : L ≤ 3072) (hi : i + 6 ≤ L) (hn : n < 512) (hR : Rel n h mm) (hcs : cells + 1 ≤ 1134 ∧ slots + 6 ≤ 14355) (kk : ∀ h2 m2 o2, Rel (n + 1) h2 m2 → lw_V p l e s m below meth c b D cI cZ cJ adC adM qo (cells + 1) (slots + 6) 23 (i + 6) [] [] h2 m2 o2) : lw_V p l e s m below meth c b D cI cZ cJ adC adM qo cells slots 273 i [] [] h mm o := by
  obtain ⟨r, h2, m2, e1, e2, hR2⟩ := s_come (xs (i + 1)) (xs (i + 2)) (xs (i + 3)) (xs (i + 4)) (xs (i + 5)) n h mm hn hR
  have hc0 : cells ≤ 1134 ∧ slots ≤ 14355 := ⟨by omega, by omega⟩
  refine L_ald1 (pc := 273) X (th_da dt9_1 0 rfl) ?_
  refine L_arg (pc := 274) (j := 1) X hL hi (by decide) (by decide) (th_da dt9_1 1 rfl) (th_da dt9_1 2 rfl) (th_da dt9_1 3 rfl) (th_da dt9_1 4 rfl) (th_da dt9_1 5 rfl) ?_
  refine L_arg (pc := 280) (j := 2) X hL hi (by decide) (by decide) (th_da dt9_1 6 rfl) (th_da dt9_1 7 rfl) (th_da dt9_1 8 rfl) (th_da dt9_1 9 rfl) (th_da dt9_1 10 rfl) ?_
  refine L_arg (pc := 286) (j := 3) X hL hi (by decide) (by decide) (th_da dt9_1 11 rfl) (th_da dt9_1 12 rfl) (th_da dt9_1 13 rfl) (th_da dt9_1 14 rfl) (th_da dt9_1 15 rfl) ?_
  refine L_arg (pc := 292) (j := 4) X hL hi (by decide) (by decide) (th_da dt9_1 16 rfl) (th_da dt9_1 17 rfl) (th_da dt9_1 18 rfl) (th_da dt9_1 19 rfl) (th_da dt9_1 20 rfl) ?_
  refine L_arg (pc := 298) (j := 5) X hL hi (by decide) (by decide) (th_da dt9_1 21 rfl) (th_da dt9_1 22 rfl) (th_da dt9_1 23 rfl) (th_da dt9_1 24 rfl) (th_da dt9_1 25 rfl) ?_
  refine L_callC (pc := 304) (st := []) X hc0 [xs (i + 1), xs (i + 2), xs (i + 3), xs (i + 4), xs (i + 5)] (th_da dt9_1 26 rfl) (mX3_come l _ _ _ _ _ _ _ _ e1) w9cd_X3_come w9ml_29 w9im_X3_come w9se_X3_come w9in_X3 h9_X3_come ⟨Nat.le_of_ble_eq_true rfl, Nat.le_of_ble_eq_true rfl⟩ (Nat.le_of_ble_eq_true rfl) rfl ?_
  refine L_ald2 (pc := 307) X (th_da dt9_1 27 rfl) ?_
  refine L_arg (pc := 308) (j := 1) X hL hi (by decide) (by decide) (th_da dt9_1 28 rfl) (th_da dt9_1 29 rfl) (th_da dt9_1 30 rfl) (th_da dt9_1 31 rfl) (th_da dt9_1 32 rfl) ?_
  refine L_arg (pc := 314) (j := 2) X hL hi (by decide) (by decide) (th_da dt9_1 33 rfl) (th_da dt9_1 34 rfl) (th_da dt9_1 35 rfl) (th_da dt9_1 36 rfl) (th_da dt9_1 37 rfl) ?_
  refine L_arg (pc := 320) (j := 3) X hL hi (by decide) (by decide) (th_da dt9_1 38 rfl) (th_da dt9_1 39 rfl) (th_da dt9_1 40 rfl) (th_da dt9_1 41 rfl) (th_da dt9_1 42 rfl) ?_
  refine L_arg (pc := 326) (j := 4) X hL hi (by decide) (by decide) (th_da dt9_1 43 rfl) (th_da dt9_1 44 rfl) (th_da dt9_1 45 rfl) (th_da dt9_1 46 rfl) (th_da dt9_1 47 rfl) ?_
  refine L_arg (pc := 332) (j := 5) X hL hi (by decide) (by decide) (th_da dt9_1 48 rfl) (th_da dt9_1 49 rfl) (th_da dt9_1 50 rfl) (th_da dt9_1 51 rfl) (th_da dt9_1 52 rfl) ?_
  refine L_callM (pc := 338) (st := [.int r]) X hc0 [xs (i + 1), xs (i + 2), xs (i + 3), xs (i + 4), xs (i + 5)] (th_da dt9_1 53 rfl) (mX4_come l _ _ _ _ _ _ _ _ e2) w9cd_X4_come w9ml_33 w9im_X4_come w9se_X4_come w9in_X4 h9_X4_come ⟨Nat.le_of_ble_eq_true rfl, Nat.le_of_ble_eq_true rfl⟩ (Nat.le_of_ble_eq_true rfl) rfl ?_
  refine L_eq (pc := 341) (tgt := 1820) X (th_da dt9_1 54 rfl) (by decide) ?_
  exact L_wide (Nat.le_add_right _ _) (Nat.le_add_right _ _) (L_next X (kk h2 m2 o hR2))
set_option maxHeartbeats 4000000 in
set_option maxRecDepth 100000 in
/-- go -/
theorem lc_2 (X : lw_X p s m meth c b L xs D cI cZ cJ adC adM qo sa) (hL : L ≤ 3072) (hi : i + 6 ≤ L) (hn : n < 512) (hR : Rel n h mm) (hcs : cells + 1 ≤ 1134 ∧ slots + 6 ≤ 14355) (kk : ∀ h2 m2 o2, Rel (n + 1) h2 m2 → lw_V p l e s m below meth c b D cI cZ cJ adC adM qo (cells + 1) (slots + 6) 23 (i + 6) [] [] h2 m2 o2) : lw_V p l e s m below meth c b D cI cZ cJ adC adM qo cells slots 346 i [] [] h mm o := by
  obtain ⟨r, h2, m2, e1, e2, hR2⟩ := s_go (xs (i + 1)) n h mm hn hR
  have hc0 : cells ≤ 1134 ∧ slots ≤ 14355 := ⟨by omega, by omega⟩
  refine L_ald1 (pc := 346) X (th_da dt9_2 0 rfl) ?_
  refine L_arg (pc := 347) (j := 1) X hL hi (by decide) (by decide) (th_da dt9_2 1 rfl) (th_da dt9_2 2 rfl) (th_da dt9_2 3 rfl) (th_da dt9_2 4 rfl) (th_da dt9_2 5 rfl) ?_
  refine L_callC (pc := 353) (st := []) X hc0 [xs (i + 1)] (th_da dt9_2 6 rfl) (mX3_go l _ _ _ _ e1) w9cd_X3_go w9ml_34 w9im_X3_go w9se_X3_go w9in_X3 h9_X3_go ⟨Nat.le_of_ble_eq_true rfl, Nat.le_of_ble_eq_true rfl⟩ (Nat.le_of_ble_eq_true rfl) rfl ?_
  refine L_ald2 (pc := 356) X (th_da dt9_2 7 rfl) ?_
  refine L_arg (pc := 357) (j := 1) X hL hi (by decide) (by decide) (th_da dt9_2 8 rfl) (th_da dt9_2 9 rfl) (th_da dt9_2 10 rfl) (th_da dt9_2 11 rfl) (th_da dt9_2 12 rfl) ?_
  refine L_callM (pc := 363) (st := [.int r]) X hc0 [xs (i + 1)] (th_da dt9_2 13 rfl) (mX4_go l _ _ _ _ e2) w9cd_X4_go w9ml_38 w9im_X4_go w9se_X4_go w9in_X4 h9_X4_go ⟨Nat.le_of_ble_eq_true rfl, Nat.le_of_ble_eq_true rfl⟩ (Nat.le_of_ble_eq_true rfl) rfl ?_
  refine L_eq (pc := 366) (tgt := 1820) X (th_da dt9_2 14 rfl) (by decide) ?_
  exact L_wide (Nat.le_add_right _ _) (Nat.le_add_right _ _) (L_next X (kk h2 m2 o hR2))
set_option maxHeartbeats 4000000 in
set_option maxRecDepth 100000 in
/-- change -/
theorem lc_3 (X : lw_X p s m meth c b L xs D cI cZ cJ adC adM qo sa) (hL : L ≤ 3072) (hi : i + 6 ≤ L) (hn : n < 512) (hR : Rel n h mm) (hcs : cells + 1 ≤ 1134 ∧ slots + 6 ≤ 14355) (kk : ∀ h2 m2 o2, Rel (n + 1) h2 m2 → lw_V p l e s m below meth c b D cI cZ cJ adC adM qo (cells + 1) (slots + 6) 23 (i + 6) [] [] h2 m2 o2) : lw_V p l e s m below meth c b D cI cZ cJ adC adM qo cells slots 371 i [] [] h mm o := by
  obtain ⟨r, h2, m2, e1, e2, hR2⟩ := s_change (xs (i + 1)) (xs (i + 2)) (xs (i + 3)) n h mm hn hR
  have hc0 : cells ≤ 1134 ∧ slots ≤ 14355 := ⟨by omega, by omega⟩
  refine L_ald1 (pc := 371) X (th_da dt9_3 0 rfl) ?_
  refine L_arg (pc := 372) (j := 1) X hL hi (by decide) (by decide) (th_da dt9_3 1 rfl) (th_da dt9_3 2 rfl) (th_da dt9_3 3 rfl) (th_da dt9_3 4 rfl) (th_da dt9_3 5 rfl) ?_
  refine L_arg (pc := 378) (j := 2) X hL hi (by decide) (by decide) (th_da dt9_3 6 rfl) (th_da dt9_3 7 rfl) (th_da dt9_3 8 rfl) (th_da dt9_3 9 rfl) (th_da dt9_3 10 rfl) ?_
  refine L_arg (pc := 384) (j := 3) X hL hi (by decide) (by decide) (th_da dt9_3 11 rfl) (th_da dt9_3 12 rfl) (th_da dt9_3 13 rfl) (th_da dt9_3 14 rfl) (th_da dt9_3 15 rfl) ?_
  refine L_callC (pc := 390) (st := []) X hc0 [xs (i + 1), xs (i + 2), xs (i + 3)] (th_da dt9_3 16 rfl) (mX3_change l _ _ _ _ _ _ e1) w9cd_X3_change w9ml_39 w9im_X3_change w9se_X3_change w9in_X3 h9_X3_change ⟨Nat.le_of_ble_eq_true rfl, Nat.le_of_ble_eq_true rfl⟩ (Nat.le_of_ble_eq_true rfl) rfl ?_
  refine L_ald2 (pc := 393) X (th_da dt9_3 17 rfl) ?_
  refine L_arg (pc := 394) (j := 1) X hL hi (by decide) (by decide) (th_da dt9_3 18 rfl) (th_da dt9_3 19 rfl) (th_da dt9_3 20 rfl) (th_da dt9_3 21 rfl) (th_da dt9_3 22 rfl) ?_
  refine L_arg (pc := 400) (j := 2) X hL hi (by decide) (by decide) (th_da dt9_3 23 rfl) (th_da dt9_3 24 rfl) (th_da dt9_3 25 rfl) (th_da dt9_3 26 rfl) (th_da dt9_3 27 rfl) ?_
  refine L_arg (pc := 406) (j := 3) X hL hi (by decide) (by decide) (th_da dt9_3 28 rfl) (th_da dt9_3 29 rfl) (th_da dt9_3 30 rfl) (th_da dt9_3 31 rfl) (th_da dt9_3 32 rfl) ?_
  refine L_callM (pc := 412) (st := [.int r]) X hc0 [xs (i + 1), xs (i + 2), xs (i + 3)] (th_da dt9_3 33 rfl) (mX4_change l _ _ _ _ _ _ e2) w9cd_X4_change w9ml_43 w9im_X4_change w9se_X4_change w9in_X4 h9_X4_change ⟨Nat.le_of_ble_eq_true rfl, Nat.le_of_ble_eq_true rfl⟩ (Nat.le_of_ble_eq_true rfl) rfl ?_
  refine L_eq (pc := 415) (tgt := 1820) X (th_da dt9_3 34 rfl) (by decide) ?_
  exact L_wide (Nat.le_add_right _ _) (Nat.le_add_right _ _) (L_next X (kk h2 m2 o hR2))
set_option maxHeartbeats 4000000 in
set_option maxRecDepth 100000 in
/-- hold -/
theorem lc_4 (X : lw_X p s m meth c b L xs D cI cZ cJ adC adM qo sa) (hL : L ≤ 3072) (hi : i + 6 ≤ L) (hn : n < 512) (hR : Rel n h mm) (hcs : cells + 1 ≤ 1134 ∧ slots + 6 ≤ 14355) (kk : ∀ h2 m2 o2, Rel (n + 1) h2 m2 → lw_V p l e s m below meth c b D cI cZ cJ adC adM qo (cells + 1) (slots + 6) 23 (i + 6) [] [] h2 m2 o2) : lw_V p l e s m below meth c b D cI cZ cJ adC adM qo cells slots 420 i [] [] h mm o := by
  obtain ⟨r, h2, m2, e1, e2, hR2⟩ := s_hold (xs (i + 1)) ((if xs (i + 2) = 0 then 0 else 1)) (by split <;> simp) n h mm hn hR
  have hc0 : cells ≤ 1134 ∧ slots ≤ 14355 := ⟨by omega, by omega⟩
  refine L_ald1 (pc := 420) X (th_da dt9_4 0 rfl) ?_
  refine L_arg (pc := 421) (j := 1) X hL hi (by decide) (by decide) (th_da dt9_4 1 rfl) (th_da dt9_4 2 rfl) (th_da dt9_4 3 rfl) (th_da dt9_4 4 rfl) (th_da dt9_4 5 rfl) ?_
  refine L_arg (pc := 427) (j := 2) X hL hi (by decide) (by decide) (th_da dt9_4 6 rfl) (th_da dt9_4 7 rfl) (th_da dt9_4 8 rfl) (th_da dt9_4 9 rfl) (th_da dt9_4 10 rfl) ?_
  refine L_bool (pc := 433) X (th_da dt9_4 11 rfl) (th_da dt9_4 12 rfl) (th_da dt9_4 13 rfl) (th_da dt9_4 14 rfl) ?_
  refine L_callC (pc := 441) (st := []) X hc0 [xs (i + 1), (if xs (i + 2) = 0 then 0 else 1)] (th_da dt9_4 15 rfl) (mX3_hold l _ _ _ _ _ e1) w9cd_X3_hold w9ml_44 w9im_X3_hold w9se_X3_hold w9in_X3 h9_X3_hold ⟨Nat.le_of_ble_eq_true rfl, Nat.le_of_ble_eq_true rfl⟩ (Nat.le_of_ble_eq_true rfl) rfl ?_
  refine L_ald2 (pc := 444) X (th_da dt9_4 16 rfl) ?_
  refine L_arg (pc := 445) (j := 1) X hL hi (by decide) (by decide) (th_da dt9_4 17 rfl) (th_da dt9_4 18 rfl) (th_da dt9_4 19 rfl) (th_da dt9_4 20 rfl) (th_da dt9_4 21 rfl) ?_
  refine L_arg (pc := 451) (j := 2) X hL hi (by decide) (by decide) (th_da dt9_4 22 rfl) (th_da dt9_4 23 rfl) (th_da dt9_4 24 rfl) (th_da dt9_4 25 rfl) (th_da dt9_4 26 rfl) ?_
  refine L_bool (pc := 457) X (th_da dt9_4 27 rfl) (th_da dt9_4 28 rfl) (th_da dt9_4 29 rfl) (th_da dt9_4 30 rfl) ?_
  refine L_callM (pc := 465) (st := [.int r]) X hc0 [xs (i + 1), (if xs (i + 2) = 0 then 0 else 1)] (th_da dt9_4 31 rfl) (mX4_hold l _ _ _ _ _ e2) w9cd_X4_hold w9ml_48 w9im_X4_hold w9se_X4_hold w9in_X4 h9_X4_hold ⟨Nat.le_of_ble_eq_true rfl, Nat.le_of_ble_eq_true rfl⟩ (Nat.le_of_ble_eq_true rfl) rfl ?_
  refine L_eq (pc := 468) (tgt := 1820) X (th_da dt9_4 32 rfl) (by decide) ?_
  exact L_wide (Nat.le_add_right _ _) (Nat.le_add_right _ _) (L_next X (kk h2 m2 o hR2))
set_option maxHeartbeats 4000000 in
set_option maxRecDepth 100000 in
/-- route -/
theorem lc_5 (X : lw_X p s m meth c b L xs D cI cZ cJ adC adM qo sa) (hL : L ≤ 3072) (hi : i + 6 ≤ L) (hn : n < 512) (hR : Rel n h mm) (hcs : cells + 1 ≤ 1134 ∧ slots + 6 ≤ 14355) (kk : ∀ h2 m2 o2, Rel (n + 1) h2 m2 → lw_V p l e s m below meth c b D cI cZ cJ adC adM qo (cells + 1) (slots + 6) 23 (i + 6) [] [] h2 m2 o2) : lw_V p l e s m below meth c b D cI cZ cJ adC adM qo cells slots 473 i [] [] h mm o := by
  obtain ⟨r, h2, m2, e1, e2, hR2⟩ := s_route (xs (i + 1)) (xs (i + 2)) n h mm hn hR
  have hc0 : cells ≤ 1134 ∧ slots ≤ 14355 := ⟨by omega, by omega⟩
  refine L_ald1 (pc := 473) X (th_da dt9_5 0 rfl) ?_
  refine L_arg (pc := 474) (j := 1) X hL hi (by decide) (by decide) (th_da dt9_5 1 rfl) (th_da dt9_5 2 rfl) (th_da dt9_5 3 rfl) (th_da dt9_5 4 rfl) (th_da dt9_5 5 rfl) ?_
  refine L_arg (pc := 480) (j := 2) X hL hi (by decide) (by decide) (th_da dt9_5 6 rfl) (th_da dt9_5 7 rfl) (th_da dt9_5 8 rfl) (th_da dt9_5 9 rfl) (th_da dt9_5 10 rfl) ?_
  refine L_callC (pc := 486) (st := []) X hc0 [xs (i + 1), xs (i + 2)] (th_da dt9_5 11 rfl) (mX3_route l _ _ _ _ _ e1) w9cd_X3_route w9ml_49 w9im_X3_route w9se_X3_route w9in_X3 h9_X3_route ⟨Nat.le_of_ble_eq_true rfl, Nat.le_of_ble_eq_true rfl⟩ (Nat.le_of_ble_eq_true rfl) rfl ?_
  refine L_ald2 (pc := 489) X (th_da dt9_5 12 rfl) ?_
  refine L_arg (pc := 490) (j := 1) X hL hi (by decide) (by decide) (th_da dt9_5 13 rfl) (th_da dt9_5 14 rfl) (th_da dt9_5 15 rfl) (th_da dt9_5 16 rfl) (th_da dt9_5 17 rfl) ?_
  refine L_arg (pc := 496) (j := 2) X hL hi (by decide) (by decide) (th_da dt9_5 18 rfl) (th_da dt9_5 19 rfl) (th_da dt9_5 20 rfl) (th_da dt9_5 21 rfl) (th_da dt9_5 22 rfl) ?_
  refine L_callM (pc := 502) (st := [.int r]) X hc0 [xs (i + 1), xs (i + 2)] (th_da dt9_5 23 rfl) (mX4_route l _ _ _ _ _ e2) w9cd_X4_route w9ml_52 w9im_X4_route w9se_X4_route w9in_X4 h9_X4_route ⟨Nat.le_of_ble_eq_true rfl, Nat.le_of_ble_eq_true rfl⟩ (Nat.le_of_ble_eq_true rfl) rfl ?_
  refine L_eq (pc := 505) (tgt := 1820) X (th_da dt9_5 24 rfl) (by decide) ?_
  exact L_wide (Nat.le_add_right _ _) (Nat.le_add_right _ _) (L_next X (kk h2 m2 o hR2))
set_option maxHeartbeats 4000000 in
set_option maxRecDepth 100000 in
/-- lose -/
theorem lc_6 (X : lw_X p s m meth c b L xs D cI cZ cJ adC adM qo sa) (hL : L ≤ 3072) (hi : i + 6 ≤ L) (hn : n < 512) (hR : Rel n h mm) (hcs : cells + 1 ≤ 1134 ∧ slots + 6 ≤ 14355) (kk : ∀ h2 m2 o2, Rel (n + 1) h2 m2 → lw_V p l e s m below meth c b D cI cZ cJ adC adM qo (cells + 1) (slots + 6) 23 (i + 6) [] [] h2 m2 o2) : lw_V p l e s m below meth c b D cI cZ cJ adC adM qo cells slots 510 i [] [] h mm o := by
  obtain ⟨r, h2, m2, e1, e2, hR2⟩ := s_lose (xs (i + 1)) (xs (i + 2)) n h mm hn hR
  have hc0 : cells ≤ 1134 ∧ slots ≤ 14355 := ⟨by omega, by omega⟩
  refine L_ald1 (pc := 510) X (th_da dt9_6 0 rfl) ?_
  refine L_arg (pc := 511) (j := 1) X hL hi (by decide) (by decide) (th_da dt9_6 1 rfl) (th_da dt9_6 2 rfl) (th_da dt9_6 3 rfl) (th_da dt9_6 4 rfl) (th_da dt9_6 5 rfl) ?_
  refine L_arg (pc := 517) (j := 2) X hL hi (by decide) (by decide) (th_da dt9_6 6 rfl) (th_da dt9_6 7 rfl) (th_da dt9_6 8 rfl) (th_da dt9_6 9 rfl) (th_da dt9_6 10 rfl) ?_
  refine L_callC (pc := 523) (st := []) X hc0 [xs (i + 1), xs (i + 2)] (th_da dt9_6 11 rfl) (mX3_lose l _ _ _ _ _ e1) w9cd_X3_lose w9ml_53 w9im_X3_lose w9se_X3_lose w9in_X3 h9_X3_lose ⟨Nat.le_of_ble_eq_true rfl, Nat.le_of_ble_eq_true rfl⟩ (Nat.le_of_ble_eq_true rfl) rfl ?_
  refine L_ald2 (pc := 526) X (th_da dt9_6 12 rfl) ?_
  refine L_arg (pc := 527) (j := 1) X hL hi (by decide) (by decide) (th_da dt9_6 13 rfl) (th_da dt9_6 14 rfl) (th_da dt9_6 15 rfl) (th_da dt9_6 16 rfl) (th_da dt9_6 17 rfl) ?_
  refine L_arg (pc := 533) (j := 2) X hL hi (by decide) (by decide) (th_da dt9_6 18 rfl) (th_da dt9_6 19 rfl) (th_da dt9_6 20 rfl) (th_da dt9_6 21 rfl) (th_da dt9_6 22 rfl) ?_
  refine L_callM (pc := 539) (st := [.int r]) X hc0 [xs (i + 1), xs (i + 2)] (th_da dt9_6 23 rfl) (mX4_lose l _ _ _ _ _ e2) w9cd_X4_lose w9ml_56 w9im_X4_lose w9se_X4_lose w9in_X4 h9_X4_lose ⟨Nat.le_of_ble_eq_true rfl, Nat.le_of_ble_eq_true rfl⟩ (Nat.le_of_ble_eq_true rfl) rfl ?_
  refine L_eq (pc := 542) (tgt := 1820) X (th_da dt9_6 24 rfl) (by decide) ?_
  exact L_wide (Nat.le_add_right _ _) (Nat.le_add_right _ _) (L_next X (kk h2 m2 o hR2))
set_option maxHeartbeats 4000000 in
set_option maxRecDepth 100000 in
/-- hop -/
theorem lc_7 (X : lw_X p s m meth c b L xs D cI cZ cJ adC adM qo sa) (hL : L ≤ 3072) (hi : i + 6 ≤ L) (hn : n < 512) (hR : Rel n h mm) (hcs : cells + 1 ≤ 1134 ∧ slots + 6 ≤ 14355) (kk : ∀ h2 m2 o2, Rel (n + 1) h2 m2 → lw_V p l e s m below meth c b D cI cZ cJ adC adM qo (cells + 1) (slots + 6) 23 (i + 6) [] [] h2 m2 o2) : lw_V p l e s m below meth c b D cI cZ cJ adC adM qo cells slots 547 i [] [] h mm o := by
  obtain ⟨r, h2, m2, e1, e2, hR2⟩ := s_hop (xs (i + 1)) n h mm hn hR
  have hc0 : cells ≤ 1134 ∧ slots ≤ 14355 := ⟨by omega, by omega⟩
  refine L_ald1 (pc := 547) X (th_da dt9_7 0 rfl) ?_
  refine L_arg (pc := 548) (j := 1) X hL hi (by decide) (by decide) (th_da dt9_7 1 rfl) (th_da dt9_7 2 rfl) (th_da dt9_7 3 rfl) (th_da dt9_7 4 rfl) (th_da dt9_7 5 rfl) ?_
  refine L_callC (pc := 554) (st := []) X hc0 [xs (i + 1)] (th_da dt9_7 6 rfl) (mX3_hop l _ _ _ _ e1) w9cd_X3_hop w9ml_57 w9im_X3_hop w9se_X3_hop w9in_X3 h9_X3_hop ⟨Nat.le_of_ble_eq_true rfl, Nat.le_of_ble_eq_true rfl⟩ (Nat.le_of_ble_eq_true rfl) rfl ?_
  refine L_ald2 (pc := 557) X (th_da dt9_7 7 rfl) ?_
  refine L_arg (pc := 558) (j := 1) X hL hi (by decide) (by decide) (th_da dt9_7 8 rfl) (th_da dt9_7 9 rfl) (th_da dt9_7 10 rfl) (th_da dt9_7 11 rfl) (th_da dt9_7 12 rfl) ?_
  refine L_callM (pc := 564) (st := [.int r]) X hc0 [xs (i + 1)] (th_da dt9_7 13 rfl) (mX4_hop l _ _ _ _ e2) w9cd_X4_hop w9ml_60 w9im_X4_hop w9se_X4_hop w9in_X4 h9_X4_hop ⟨Nat.le_of_ble_eq_true rfl, Nat.le_of_ble_eq_true rfl⟩ (Nat.le_of_ble_eq_true rfl) rfl ?_
  refine L_eq (pc := 567) (tgt := 1820) X (th_da dt9_7 14 rfl) (by decide) ?_
  exact L_wide (Nat.le_add_right _ _) (Nat.le_add_right _ _) (L_next X (kk h2 m2 o hR2))
set_option maxHeartbeats 4000000 in
set_option maxRecDepth 100000 in
/-- letter -/
theorem lc_8 (X : lw_X p s m meth c b L xs D cI cZ cJ adC adM qo sa) (hL : L ≤ 3072) (hi : i + 6 ≤ L) (hn : n < 512) (hR : Rel n h mm) (hcs : cells + 1 ≤ 1134 ∧ slots + 6 ≤ 14355) (kk : ∀ h2 m2 o2, Rel (n + 1) h2 m2 → lw_V p l e s m below meth c b D cI cZ cJ adC adM qo (cells + 1) (slots + 6) 23 (i + 6) [] [] h2 m2 o2) : lw_V p l e s m below meth c b D cI cZ cJ adC adM qo cells slots 572 i [] [] h mm o := by
  obtain ⟨r, h2, m2, e1, e2, hR2⟩ := s_letter (xs (i + 1)) n h mm hn hR
  have hc0 : cells ≤ 1134 ∧ slots ≤ 14355 := ⟨by omega, by omega⟩
  refine L_ald1 (pc := 572) X (th_da dt9_8 0 rfl) ?_
  refine L_arg (pc := 573) (j := 1) X hL hi (by decide) (by decide) (th_da dt9_8 1 rfl) (th_da dt9_8 2 rfl) (th_da dt9_8 3 rfl) (th_da dt9_8 4 rfl) (th_da dt9_8 5 rfl) ?_
  refine L_callC (pc := 579) (st := []) X hc0 [xs (i + 1)] (th_da dt9_8 6 rfl) (mX3_letter l _ _ _ _ e1) w9cd_X3_letter w9ml_61 w9im_X3_letter w9se_X3_letter w9in_X3 h9_X3_letter ⟨Nat.le_of_ble_eq_true rfl, Nat.le_of_ble_eq_true rfl⟩ (Nat.le_of_ble_eq_true rfl) rfl ?_
  refine L_ald2 (pc := 582) X (th_da dt9_8 7 rfl) ?_
  refine L_arg (pc := 583) (j := 1) X hL hi (by decide) (by decide) (th_da dt9_8 8 rfl) (th_da dt9_8 9 rfl) (th_da dt9_8 10 rfl) (th_da dt9_8 11 rfl) (th_da dt9_8 12 rfl) ?_
  refine L_callM (pc := 589) (st := [.int r]) X hc0 [xs (i + 1)] (th_da dt9_8 13 rfl) (mX4_letter l _ _ _ _ e2) w9cd_X4_letter w9ml_64 w9im_X4_letter w9se_X4_letter w9in_X4 h9_X4_letter ⟨Nat.le_of_ble_eq_true rfl, Nat.le_of_ble_eq_true rfl⟩ (Nat.le_of_ble_eq_true rfl) rfl ?_
  refine L_eq (pc := 592) (tgt := 1820) X (th_da dt9_8 14 rfl) (by decide) ?_
  exact L_wide (Nat.le_add_right _ _) (Nat.le_add_right _ _) (L_next X (kk h2 m2 o hR2))
set_option maxHeartbeats 4000000 in
set_option maxRecDepth 100000 in
/-- rounds -/
theorem lc_9 (X : lw_X p s m meth c b L xs D cI cZ cJ adC adM qo sa) (hL : L ≤ 3072) (hi : i + 6 ≤ L) (hn : n < 512) (hR : Rel n h mm) (hcs : cells + 1 ≤ 1134 ∧ slots + 6 ≤ 14355) (kk : ∀ h2 m2 o2, Rel (n + 1) h2 m2 → lw_V p l e s m below meth c b D cI cZ cJ adC adM qo (cells + 1) (slots + 6) 23 (i + 6) [] [] h2 m2 o2) : lw_V p l e s m below meth c b D cI cZ cJ adC adM qo cells slots 597 i [] [] h mm o := by
  obtain ⟨r, h2, m2, e1, e2, hR2⟩ := s_rounds (xs (i + 1)) n h mm hn hR
  have hc0 : cells ≤ 1134 ∧ slots ≤ 14355 := ⟨by omega, by omega⟩
  refine L_ald1 (pc := 597) X (th_da dt9_9 0 rfl) ?_
  refine L_arg (pc := 598) (j := 1) X hL hi (by decide) (by decide) (th_da dt9_9 1 rfl) (th_da dt9_9 2 rfl) (th_da dt9_9 3 rfl) (th_da dt9_9 4 rfl) (th_da dt9_9 5 rfl) ?_
  refine L_callC (pc := 604) (st := []) X hc0 [xs (i + 1)] (th_da dt9_9 6 rfl) (mX3_rounds l _ _ _ _ e1) w9cd_X3_rounds w9ml_65 w9im_X3_rounds w9se_X3_rounds w9in_X3 h9_X3_rounds ⟨Nat.le_of_ble_eq_true rfl, Nat.le_of_ble_eq_true rfl⟩ (Nat.le_of_ble_eq_true rfl) rfl ?_
  refine L_ald2 (pc := 607) X (th_da dt9_9 7 rfl) ?_
  refine L_arg (pc := 608) (j := 1) X hL hi (by decide) (by decide) (th_da dt9_9 8 rfl) (th_da dt9_9 9 rfl) (th_da dt9_9 10 rfl) (th_da dt9_9 11 rfl) (th_da dt9_9 12 rfl) ?_
  refine L_callM (pc := 614) (st := [.int r]) X hc0 [xs (i + 1)] (th_da dt9_9 13 rfl) (mX4_rounds l _ _ _ _ e2) w9cd_X4_rounds w9ml_68 w9im_X4_rounds w9se_X4_rounds w9in_X4 h9_X4_rounds ⟨Nat.le_of_ble_eq_true rfl, Nat.le_of_ble_eq_true rfl⟩ (Nat.le_of_ble_eq_true rfl) rfl ?_
  refine L_eq (pc := 617) (tgt := 1820) X (th_da dt9_9 14 rfl) (by decide) ?_
  exact L_wide (Nat.le_add_right _ _) (Nat.le_add_right _ _) (L_next X (kk h2 m2 o hR2))
set_option maxHeartbeats 4000000 in
set_option maxRecDepth 100000 in
/-- forget -/
theorem lc_10 (X : lw_X p s m meth c b L xs D cI cZ cJ adC adM qo sa) (hL : L ≤ 3072) (hi : i + 6 ≤ L) (hn : n < 512) (hR : Rel n h mm) (hcs : cells + 1 ≤ 1134 ∧ slots + 6 ≤ 14355) (kk : ∀ h2 m2 o2, Rel (n + 1) h2 m2 → lw_V p l e s m below meth c b D cI cZ cJ adC adM qo (cells + 1) (slots + 6) 23 (i + 6) [] [] h2 m2 o2) : lw_V p l e s m below meth c b D cI cZ cJ adC adM qo cells slots 622 i [] [] h mm o := by
  obtain ⟨r, h2, m2, e1, e2, hR2⟩ := s_forget  n h mm hn hR
  have hc0 : cells ≤ 1134 ∧ slots ≤ 14355 := ⟨by omega, by omega⟩
  refine L_ald1 (pc := 622) X (th_da dt9_10 0 rfl) ?_
  refine L_callC (pc := 623) (st := []) X hc0 [] (th_da dt9_10 1 rfl) (mX3_forget l _ _ _ e1) w9cd_X3_forget w9ml_69 w9im_X3_forget w9se_X3_forget w9in_X3 h9_X3_forget ⟨Nat.le_of_ble_eq_true rfl, Nat.le_of_ble_eq_true rfl⟩ (Nat.le_of_ble_eq_true rfl) rfl ?_
  refine L_ald2 (pc := 626) X (th_da dt9_10 2 rfl) ?_
  refine L_callM (pc := 627) (st := [.int r]) X hc0 [] (th_da dt9_10 3 rfl) (mX4_forget l _ _ _ e2) w9cd_X4_forget w9ml_73 w9im_X4_forget w9se_X4_forget w9in_X4 h9_X4_forget ⟨Nat.le_of_ble_eq_true rfl, Nat.le_of_ble_eq_true rfl⟩ (Nat.le_of_ble_eq_true rfl) rfl ?_
  refine L_eq (pc := 630) (tgt := 1820) X (th_da dt9_10 4 rfl) (by decide) ?_
  exact L_wide (Nat.le_add_right _ _) (Nat.le_add_right _ _) (L_next X (kk h2 m2 o hR2))
set_option maxHeartbeats 4000000 in
set_option maxRecDepth 100000 in
/-- keep -/
theorem lc_11 (X : lw_X p s m meth c b L xs D cI cZ cJ adC adM qo sa) (hL : L ≤ 3072) (hi : i + 6 ≤ L) (hn : n < 512) (hR : Rel n h mm) (hcs : cells + 1 ≤ 1134 ∧ slots + 6 ≤ 14355) (kk : ∀ h2 m2 o2, Rel (n + 1) h2 m2 → lw_V p l e s m below meth c b D cI cZ cJ adC adM qo (cells + 1) (slots + 6) 23 (i + 6) [] [] h2 m2 o2) : lw_V p l e s m below meth c b D cI cZ cJ adC adM qo cells slots 635 i [] [] h mm o := by
  obtain ⟨r, h2, m2, e1, e2, hR2⟩ := s_keep (xs (i + 1)) n h mm hn hR
  have hc0 : cells ≤ 1134 ∧ slots ≤ 14355 := ⟨by omega, by omega⟩
  refine L_ald1 (pc := 635) X (th_da dt9_11 0 rfl) ?_
  refine L_arg (pc := 636) (j := 1) X hL hi (by decide) (by decide) (th_da dt9_11 1 rfl) (th_da dt9_11 2 rfl) (th_da dt9_11 3 rfl) (th_da dt9_11 4 rfl) (th_da dt9_11 5 rfl) ?_
  refine L_callC (pc := 642) (st := []) X hc0 [xs (i + 1)] (th_da dt9_11 6 rfl) (mX3_keep l _ _ _ _ e1) w9cd_X3_keep w9ml_74 w9im_X3_keep w9se_X3_keep w9in_X3 h9_X3_keep ⟨Nat.le_of_ble_eq_true rfl, Nat.le_of_ble_eq_true rfl⟩ (Nat.le_of_ble_eq_true rfl) rfl ?_
  refine L_ald2 (pc := 645) X (th_da dt9_11 7 rfl) ?_
  refine L_arg (pc := 646) (j := 1) X hL hi (by decide) (by decide) (th_da dt9_11 8 rfl) (th_da dt9_11 9 rfl) (th_da dt9_11 10 rfl) (th_da dt9_11 11 rfl) (th_da dt9_11 12 rfl) ?_
  refine L_callM (pc := 652) (st := [.int r]) X hc0 [xs (i + 1)] (th_da dt9_11 13 rfl) (mX4_keep l _ _ _ _ e2) w9cd_X4_keep w9ml_78 w9im_X4_keep w9se_X4_keep w9in_X4 h9_X4_keep ⟨Nat.le_of_ble_eq_true rfl, Nat.le_of_ble_eq_true rfl⟩ (Nat.le_of_ble_eq_true rfl) rfl ?_
  refine L_eq (pc := 655) (tgt := 1820) X (th_da dt9_11 14 rfl) (by decide) ?_
  exact L_wide (Nat.le_add_right _ _) (Nat.le_add_right _ _) (L_next X (kk h2 m2 o hR2))
set_option maxHeartbeats 4000000 in
set_option maxRecDepth 100000 in
/-- again -/
theorem lc_12 (X : lw_X p s m meth c b L xs D cI cZ cJ adC adM qo sa) (hL : L ≤ 3072) (hi : i + 6 ≤ L) (hn : n < 512) (hR : Rel n h mm) (hcs : cells + 1 ≤ 1134 ∧ slots + 6 ≤ 14355) (kk : ∀ h2 m2 o2, Rel (n + 1) h2 m2 → lw_V p l e s m below meth c b D cI cZ cJ adC adM qo (cells + 1) (slots + 6) 23 (i + 6) [] [] h2 m2 o2) : lw_V p l e s m below meth c b D cI cZ cJ adC adM qo cells slots 660 i [] [] h mm o := by
  obtain ⟨r, h2, m2, e1, e2, hR2⟩ := s_again (xs (i + 1)) n h mm hn hR
  have hc0 : cells ≤ 1134 ∧ slots ≤ 14355 := ⟨by omega, by omega⟩
  refine L_ald1 (pc := 660) X (th_da dt9_12 0 rfl) ?_
  refine L_arg (pc := 661) (j := 1) X hL hi (by decide) (by decide) (th_da dt9_12 1 rfl) (th_da dt9_12 2 rfl) (th_da dt9_12 3 rfl) (th_da dt9_12 4 rfl) (th_da dt9_12 5 rfl) ?_
  refine L_callC (pc := 667) (st := []) X hc0 [xs (i + 1)] (th_da dt9_12 6 rfl) (mX3_again l _ _ _ _ e1) w9cd_X3_again w9ml_79 w9im_X3_again w9se_X3_again w9in_X3 h9_X3_again ⟨Nat.le_of_ble_eq_true rfl, Nat.le_of_ble_eq_true rfl⟩ (Nat.le_of_ble_eq_true rfl) rfl ?_
  refine L_ald2 (pc := 670) X (th_da dt9_12 7 rfl) ?_
  refine L_arg (pc := 671) (j := 1) X hL hi (by decide) (by decide) (th_da dt9_12 8 rfl) (th_da dt9_12 9 rfl) (th_da dt9_12 10 rfl) (th_da dt9_12 11 rfl) (th_da dt9_12 12 rfl) ?_
  refine L_callM (pc := 677) (st := [.int r]) X hc0 [xs (i + 1)] (th_da dt9_12 13 rfl) (mX4_again l _ _ _ _ e2) w9cd_X4_again w9ml_82 w9im_X4_again w9se_X4_again w9in_X4 h9_X4_again ⟨Nat.le_of_ble_eq_true rfl, Nat.le_of_ble_eq_true rfl⟩ (Nat.le_of_ble_eq_true rfl) rfl ?_
  refine L_eq (pc := 680) (tgt := 1820) X (th_da dt9_12 14 rfl) (by decide) ?_
  exact L_wide (Nat.le_add_right _ _) (Nat.le_add_right _ _) (L_next X (kk h2 m2 o hR2))
set_option maxHeartbeats 4000000 in
set_option maxRecDepth 100000 in
/-- links -/
theorem lc_13 (X : lw_X p s m meth c b L xs D cI cZ cJ adC adM qo sa) (hL : L ≤ 3072) (hi : i + 6 ≤ L) (hn : n < 512) (hR : Rel n h mm) (hcs : cells + 1 ≤ 1134 ∧ slots + 6 ≤ 14355) (kk : ∀ h2 m2 o2, Rel (n + 1) h2 m2 → lw_V p l e s m below meth c b D cI cZ cJ adC adM qo (cells + 1) (slots + 6) 23 (i + 6) [] [] h2 m2 o2) : lw_V p l e s m below meth c b D cI cZ cJ adC adM qo cells slots 685 i [] [] h mm o := by
  obtain ⟨r, h2, m2, e1, e2, hR2⟩ := s_links (xs (i + 1)) (xs (i + 2)) n h mm hn hR
  have hc0 : cells ≤ 1134 ∧ slots ≤ 14355 := ⟨by omega, by omega⟩
  refine L_ald1 (pc := 685) X (th_da dt9_13 0 rfl) ?_
  refine L_arg (pc := 686) (j := 1) X hL hi (by decide) (by decide) (th_da dt9_13 1 rfl) (th_da dt9_13 2 rfl) (th_da dt9_13 3 rfl) (th_da dt9_13 4 rfl) (th_da dt9_13 5 rfl) ?_
  refine L_arg (pc := 692) (j := 2) X hL hi (by decide) (by decide) (th_da dt9_13 6 rfl) (th_da dt9_13 7 rfl) (th_da dt9_13 8 rfl) (th_da dt9_13 9 rfl) (th_da dt9_13 10 rfl) ?_
  refine L_callC (pc := 698) (st := []) X hc0 [xs (i + 1), xs (i + 2)] (th_da dt9_13 11 rfl) (mX3_links l _ _ _ _ _ e1) w9cd_X3_links w9ml_83 w9im_X3_links w9se_X3_links w9in_X3 h9_X3_links ⟨Nat.le_of_ble_eq_true rfl, Nat.le_of_ble_eq_true rfl⟩ (Nat.le_of_ble_eq_true rfl) rfl ?_
  refine L_ald2 (pc := 701) X (th_da dt9_13 12 rfl) ?_
  refine L_arg (pc := 702) (j := 1) X hL hi (by decide) (by decide) (th_da dt9_13 13 rfl) (th_da dt9_13 14 rfl) (th_da dt9_13 15 rfl) (th_da dt9_13 16 rfl) (th_da dt9_13 17 rfl) ?_
  refine L_arg (pc := 708) (j := 2) X hL hi (by decide) (by decide) (th_da dt9_13 18 rfl) (th_da dt9_13 19 rfl) (th_da dt9_13 20 rfl) (th_da dt9_13 21 rfl) (th_da dt9_13 22 rfl) ?_
  refine L_callM (pc := 714) (st := [.int r]) X hc0 [xs (i + 1), xs (i + 2)] (th_da dt9_13 23 rfl) (mX4_links l _ _ _ _ _ e2) w9cd_X4_links w9ml_86 w9im_X4_links w9se_X4_links w9in_X4 h9_X4_links ⟨Nat.le_of_ble_eq_true rfl, Nat.le_of_ble_eq_true rfl⟩ (Nat.le_of_ble_eq_true rfl) rfl ?_
  refine L_eq (pc := 717) (tgt := 1820) X (th_da dt9_13 24 rfl) (by decide) ?_
  exact L_wide (Nat.le_add_right _ _) (Nat.le_add_right _ _) (L_next X (kk h2 m2 o hR2))
set_option maxHeartbeats 4000000 in
set_option maxRecDepth 100000 in
/-- flow -/
theorem lc_14 (X : lw_X p s m meth c b L xs D cI cZ cJ adC adM qo sa) (hl : l.stackTraces = false) (hL : L ≤ 3072) (hi : i + 6 ≤ L) (hn : n < 512) (hR : Rel n h mm) (hcs : cells + 1 ≤ 1134 ∧ slots + 6 ≤ 14355) (kk : ∀ h2 m2 o2, Rel (n + 1) h2 m2 → lw_V p l e s m below meth c b D cI cZ cJ adC adM qo (cells + 1) (slots + 6) 23 (i + 6) [] [] h2 m2 o2) : lw_V p l e s m below meth c b D cI cZ cJ adC adM qo cells slots 722 i [] [] h mm o := by
  rcases s_flow (xs (i + 1)) (xs (i + 2)) n h mm hn hR with ⟨f0, m2, e2, tt, hR2⟩ | ⟨f1, r, h2, m2, e1, e2, tt, hR2⟩
  · refine L_ald1 (pc := 722) X (th_da dt9_14 0 rfl) ?_
    refine L_arg (pc := 723) (j := 1) X hL hi (by decide) (by decide) (th_da dt9_14 1 rfl) (th_da dt9_14 2 rfl) (th_da dt9_14 3 rfl) (th_da dt9_14 4 rfl) (th_da dt9_14 5 rfl) ?_
    refine L_arg (pc := 729) (j := 2) X hL hi (by decide) (by decide) (th_da dt9_14 6 rfl) (th_da dt9_14 7 rfl) (th_da dt9_14 8 rfl) (th_da dt9_14 9 rfl) (th_da dt9_14 10 rfl) ?_
    refine L_ald3 (pc := 735) X (th_da dt9_14 11 rfl) ?_
    refine L_help (pc := 736) X hcs (th_da dt9_14 12 rfl) (fun sz => hp_thr (yH := yL_flow) (y := yX3_flow) (idx := 7) rfl rfl dth_flow w9cd_X3_flow w9ml_7 w9im_X3_flow w9se_X3_flow w9in_X3 h9_X3_flow rfl rfl ex_dflow (Nat.le_of_ble_eq_true rfl) (Nat.le_of_ble_eq_true rfl) l hl D cI cZ cJ adC qo sz sa _ _ h o f0) w9cd_L_flow w9ml_87 w9st_L_flow w9in_L h9_L_flow ?_
    refine L_ist5 (pc := 739) X (th_da dt9_14 13 rfl) ?_
    refine L_ald2 (pc := 741) X (th_da dt9_14 14 rfl) ?_
    refine L_arg (pc := 742) (j := 1) X hL hi (by decide) (by decide) (th_da dt9_14 15 rfl) (th_da dt9_14 16 rfl) (th_da dt9_14 17 rfl) (th_da dt9_14 18 rfl) (th_da dt9_14 19 rfl) ?_
    refine L_arg (pc := 748) (j := 2) X hL hi (by decide) (by decide) (th_da dt9_14 20 rfl) (th_da dt9_14 21 rfl) (th_da dt9_14 22 rfl) (th_da dt9_14 23 rfl) (th_da dt9_14 24 rfl) ?_
    refine L_callM (pc := 754) (st := []) X hcs [xs (i + 1), xs (i + 2)] (th_da dt9_14 25 rfl) (mX4_flow l _ _ _ _ _ e2) w9cd_X4_flow w9ml_92 w9im_X4_flow w9se_X4_flow w9in_X4 h9_X4_flow ⟨Nat.le_of_ble_eq_true rfl, Nat.le_of_ble_eq_true rfl⟩ (Nat.le_of_ble_eq_true rfl) rfl ?_
    refine L_ist6 (pc := 757) X (th_da dt9_14 26 rfl) ?_
    refine L_ald2 (pc := 759) X (th_da dt9_14 27 rfl) ?_
    refine L_callM (pc := 760) (st := []) X hcs [] (th_da dt9_14 28 rfl) (mX4_thrown l m2 1 m2 (by unfold fX4_thrown; rw [tt])) w9cd_X4_thrown w9ml_93 w9im_X4_thrown w9se_X4_thrown w9in_X4 h9_X4_thrown ⟨Nat.le_of_ble_eq_true rfl, Nat.le_of_ble_eq_true rfl⟩ (Nat.le_of_ble_eq_true rfl) rfl ?_
    refine L_il5 (pc := 763) X (th_da dt9_14 29 rfl) ?_
    refine L_eq (pc := 765) (tgt := 770) X (th_da dt9_14 30 rfl) (by decide) ?_
    refine L_il5 (pc := 770) X (th_da dt9_14 31 rfl) ?_
    refine L_if1 (pc := 772) (tgt := 787) X (th_da dt9_14 32 rfl) (by decide) ?_
    refine L_goto (pc := 787) (tgt := 1820) X (th_da dt9_14 33 rfl) (by decide) ?_
    exact L_next X (kk h m2 o hR2)
  · refine L_ald1 (pc := 722) X (th_da dt9_14 34 rfl) ?_
    refine L_arg (pc := 723) (j := 1) X hL hi (by decide) (by decide) (th_da dt9_14 35 rfl) (th_da dt9_14 36 rfl) (th_da dt9_14 37 rfl) (th_da dt9_14 38 rfl) (th_da dt9_14 39 rfl) ?_
    refine L_arg (pc := 729) (j := 2) X hL hi (by decide) (by decide) (th_da dt9_14 40 rfl) (th_da dt9_14 41 rfl) (th_da dt9_14 42 rfl) (th_da dt9_14 43 rfl) (th_da dt9_14 44 rfl) ?_
    refine L_ald3 (pc := 735) X (th_da dt9_14 45 rfl) ?_
    refine L_help (pc := 736) X hcs (th_da dt9_14 46 rfl) (fun sz => hp_ret (yH := yL_flow) (y := yX3_flow) (idx := 7) rfl rfl dth_flow w9cd_X3_flow w9ml_7 w9im_X3_flow w9se_X3_flow w9in_X3 h9_X3_flow ⟨Nat.le_of_ble_eq_true rfl, Nat.le_of_ble_eq_true rfl⟩ l D cI cZ cJ adC qo sz sa _ _ h o r h2 (mX3_flow l _ _ _ _ _ e1)) w9cd_L_flow w9ml_87 w9st_L_flow w9in_L h9_L_flow ?_
    refine L_ist5 (pc := 739) X (th_da dt9_14 47 rfl) ?_
    refine L_ald2 (pc := 741) X (th_da dt9_14 48 rfl) ?_
    refine L_arg (pc := 742) (j := 1) X hL hi (by decide) (by decide) (th_da dt9_14 49 rfl) (th_da dt9_14 50 rfl) (th_da dt9_14 51 rfl) (th_da dt9_14 52 rfl) (th_da dt9_14 53 rfl) ?_
    refine L_arg (pc := 748) (j := 2) X hL hi (by decide) (by decide) (th_da dt9_14 54 rfl) (th_da dt9_14 55 rfl) (th_da dt9_14 56 rfl) (th_da dt9_14 57 rfl) (th_da dt9_14 58 rfl) ?_
    refine L_callM (pc := 754) (st := []) X hcs [xs (i + 1), xs (i + 2)] (th_da dt9_14 59 rfl) (mX4_flow l _ _ _ _ _ e2) w9cd_X4_flow w9ml_92 w9im_X4_flow w9se_X4_flow w9in_X4 h9_X4_flow ⟨Nat.le_of_ble_eq_true rfl, Nat.le_of_ble_eq_true rfl⟩ (Nat.le_of_ble_eq_true rfl) rfl ?_
    refine L_ist6 (pc := 757) X (th_da dt9_14 60 rfl) ?_
    refine L_ald2 (pc := 759) X (th_da dt9_14 61 rfl) ?_
    refine L_callM (pc := 760) (st := []) X hcs [] (th_da dt9_14 62 rfl) (mX4_thrown l m2 0 m2 (by unfold fX4_thrown; rw [tt])) w9cd_X4_thrown w9ml_93 w9im_X4_thrown w9se_X4_thrown w9in_X4 h9_X4_thrown ⟨Nat.le_of_ble_eq_true rfl, Nat.le_of_ble_eq_true rfl⟩ (Nat.le_of_ble_eq_true rfl) rfl ?_
    refine L_il5 (pc := 763) X (th_da dt9_14 63 rfl) ?_
    refine L_eq (pc := 765) (tgt := 770) X (th_da dt9_14 64 rfl) (by decide) ?_
    refine L_il5 (pc := 770) X (th_da dt9_14 65 rfl) ?_
    refine L_if0 (pc := 772) (tgt := 787) X (th_da dt9_14 66 rfl) (by decide) ?_
    refine L_out (pc := 775) X (th_da dt9_14 67 rfl) (th_da dt9_14 68 rfl) (th_da dt9_14 69 rfl) ?_
    refine L_il6 (pc := 778) X (th_da dt9_14 70 rfl) ?_
    refine L_i2l (pc := 780) X (th_da dt9_14 71 rfl) ?_
    refine L_leq (pc := 781) (tgt := 787) X (th_da dt9_14 72 rfl) (th_da dt9_14 73 rfl) (by decide) ?_
    refine L_goto (pc := 787) (tgt := 1820) X (th_da dt9_14 74 rfl) (by decide) ?_
    exact L_next X (kk h2 m2 _ hR2)
end
