/-! ===== the law's cases ===== -/
theorem dt9_15 : th_dec code [(790, .aload_n 1, 1), (791, .aload_n 0, 1), (792, .iload 4, 2), (794, .iconst 1, 1), (795, .iadd, 1), (796, .iaload, 1), (797, .invokevirtual 96, 3), (800, .aload_n 2, 1), (801, .aload_n 0, 1), (802, .iload 4, 2), (804, .iconst 1, 1), (805, .iadd, 1), (806, .iaload, 1), (807, .invokevirtual 99, 3), (810, .if_icmp .eq 1010, 3)] = true := by decide +kernel
theorem dt9_16 : th_dec code [(815, .aload_n 1, 1), (816, .aload_n 0, 1), (817, .iload 4, 2), (819, .iconst 1, 1), (820, .iadd, 1), (821, .iaload, 1), (822, .aload_n 0, 1), (823, .iload 4, 2), (825, .iconst 2, 1), (826, .iadd, 1), (827, .iaload, 1), (828, .aload_n 3, 1), (829, .invokestatic 100, 3), (832, .istore 5, 2), (834, .aload_n 2, 1), (835, .aload_n 0, 1), (836, .iload 4, 2), (838, .iconst 1, 1), (839, .iadd, 1), (840, .iaload, 1), (841, .aload_n 0, 1), (842, .iload 4, 2), (844, .iconst 2, 1), (845, .iadd, 1), (846, .iaload, 1), (847, .invokevirtual 102, 3), (850, .istore 6, 2), (852, .aload_n 2, 1), (853, .invokevirtual 93, 3), (856, .iload 5, 2), (858, .if_icmp .eq 5, 3), (863, .iload 5, 2), (865, .ifCond .ne 15, 3), (880, .goto 940, 3), (815, .aload_n 1, 1), (816, .aload_n 0, 1), (817, .iload 4, 2), (819, .iconst 1, 1), (820, .iadd, 1), (821, .iaload, 1), (822, .aload_n 0, 1), (823, .iload 4, 2), (825, .iconst 2, 1), (826, .iadd, 1), (827, .iaload, 1), (828, .aload_n 3, 1), (829, .invokestatic 100, 3), (832, .istore 5, 2), (834, .aload_n 2, 1), (835, .aload_n 0, 1), (836, .iload 4, 2), (838, .iconst 1, 1), (839, .iadd, 1), (840, .iaload, 1), (841, .aload_n 0, 1), (842, .iload 4, 2), (844, .iconst 2, 1), (845, .iadd, 1), (846, .iaload, 1), (847, .invokevirtual 102, 3), (850, .istore 6, 2), (852, .aload_n 2, 1), (853, .invokevirtual 93, 3), (856, .iload 5, 2), (858, .if_icmp .eq 5, 3), (863, .iload 5, 2), (865, .ifCond .ne 15, 3), (868, .aload_n 3, 1), (869, .iconst 0, 1), (870, .laload, 1), (871, .iload 6, 2), (873, .i2l, 1), (874, .lcmp, 1), (875, .ifCond .eq 5, 3), (880, .goto 940, 3)] = true := by decide +kernel
theorem dt9_17 : th_dec code [(883, .aload_n 1, 1), (884, .aload_n 0, 1), (885, .iload 4, 2), (887, .iconst 1, 1), (888, .iadd, 1), (889, .iaload, 1), (890, .aload_n 0, 1), (891, .iload 4, 2), (893, .iconst 2, 1), (894, .iadd, 1), (895, .iaload, 1), (896, .invokevirtual 103, 3), (899, .aload_n 2, 1), (900, .aload_n 0, 1), (901, .iload 4, 2), (903, .iconst 1, 1), (904, .iadd, 1), (905, .iaload, 1), (906, .aload_n 0, 1), (907, .iload 4, 2), (909, .iconst 2, 1), (910, .iadd, 1), (911, .iaload, 1), (912, .invokevirtual 106, 3), (915, .if_icmp .eq 905, 3)] = true := by decide +kernel
theorem dt9_18 : th_dec code [(920, .aload_n 1, 1), (921, .aload_n 0, 1), (922, .iload 4, 2), (924, .iconst 1, 1), (925, .iadd, 1), (926, .iaload, 1), (927, .invokevirtual 107, 3), (930, .aload_n 2, 1), (931, .aload_n 0, 1), (932, .iload 4, 2), (934, .iconst 1, 1), (935, .iadd, 1), (936, .iaload, 1), (937, .invokevirtual 110, 3), (940, .if_icmp .eq 880, 3)] = true := by decide +kernel
theorem dt9_19 : th_dec code [(945, .aload_n 1, 1), (946, .aload_n 0, 1), (947, .iload 4, 2), (949, .iconst 1, 1), (950, .iadd, 1), (951, .iaload, 1), (952, .aload_n 0, 1), (953, .iload 4, 2), (955, .iconst 2, 1), (956, .iadd, 1), (957, .iaload, 1), (958, .invokevirtual 111, 3), (961, .aload_n 2, 1), (962, .aload_n 0, 1), (963, .iload 4, 2), (965, .iconst 1, 1), (966, .iadd, 1), (967, .iaload, 1), (968, .aload_n 0, 1), (969, .iload 4, 2), (971, .iconst 2, 1), (972, .iadd, 1), (973, .iaload, 1), (974, .invokevirtual 114, 3), (977, .if_icmp .eq 843, 3)] = true := by decide +kernel
theorem dt9_20 : th_dec code [(982, .aload_n 1, 1), (983, .aload_n 0, 1), (984, .iload 4, 2), (986, .iconst 1, 1), (987, .iadd, 1), (988, .iaload, 1), (989, .invokevirtual 115, 3), (992, .aload_n 2, 1), (993, .aload_n 0, 1), (994, .iload 4, 2), (996, .iconst 1, 1), (997, .iadd, 1), (998, .iaload, 1), (999, .invokevirtual 118, 3), (1002, .if_icmp .eq 818, 3)] = true := by decide +kernel
theorem dt9_21 : th_dec code [(1007, .aload_n 1, 1), (1008, .aload_n 0, 1), (1009, .iload 4, 2), (1011, .iconst 1, 1), (1012, .iadd, 1), (1013, .iaload, 1), (1014, .aload_n 0, 1), (1015, .iload 4, 2), (1017, .iconst 2, 1), (1018, .iadd, 1), (1019, .iaload, 1), (1020, .aload_n 3, 1), (1021, .invokestatic 119, 3), (1024, .istore 5, 2), (1026, .aload_n 2, 1), (1027, .aload_n 0, 1), (1028, .iload 4, 2), (1030, .iconst 1, 1), (1031, .iadd, 1), (1032, .iaload, 1), (1033, .aload_n 0, 1), (1034, .iload 4, 2), (1036, .iconst 2, 1), (1037, .iadd, 1), (1038, .iaload, 1), (1039, .invokevirtual 121, 3), (1042, .istore 6, 2), (1044, .aload_n 2, 1), (1045, .invokevirtual 93, 3), (1048, .iload 5, 2), (1050, .if_icmp .eq 5, 3), (1055, .iload 5, 2), (1057, .ifCond .ne 15, 3), (1072, .goto 748, 3), (1007, .aload_n 1, 1), (1008, .aload_n 0, 1), (1009, .iload 4, 2), (1011, .iconst 1, 1), (1012, .iadd, 1), (1013, .iaload, 1), (1014, .aload_n 0, 1), (1015, .iload 4, 2), (1017, .iconst 2, 1), (1018, .iadd, 1), (1019, .iaload, 1), (1020, .aload_n 3, 1), (1021, .invokestatic 119, 3), (1024, .istore 5, 2), (1026, .aload_n 2, 1), (1027, .aload_n 0, 1), (1028, .iload 4, 2), (1030, .iconst 1, 1), (1031, .iadd, 1), (1032, .iaload, 1), (1033, .aload_n 0, 1), (1034, .iload 4, 2), (1036, .iconst 2, 1), (1037, .iadd, 1), (1038, .iaload, 1), (1039, .invokevirtual 121, 3), (1042, .istore 6, 2), (1044, .aload_n 2, 1), (1045, .invokevirtual 93, 3), (1048, .iload 5, 2), (1050, .if_icmp .eq 5, 3), (1055, .iload 5, 2), (1057, .ifCond .ne 15, 3), (1060, .aload_n 3, 1), (1061, .iconst 0, 1), (1062, .laload, 1), (1063, .iload 6, 2), (1065, .i2l, 1), (1066, .lcmp, 1), (1067, .ifCond .eq 5, 3), (1072, .goto 748, 3)] = true := by decide +kernel
theorem dt9_22 : th_dec code [(1075, .aload_n 1, 1), (1076, .aload_n 0, 1), (1077, .iload 4, 2), (1079, .iconst 1, 1), (1080, .iadd, 1), (1081, .iaload, 1), (1082, .invokevirtual 122, 3), (1085, .aload_n 2, 1), (1086, .aload_n 0, 1), (1087, .iload 4, 2), (1089, .iconst 1, 1), (1090, .iadd, 1), (1091, .iaload, 1), (1092, .invokevirtual 125, 3), (1095, .if_icmp .eq 725, 3)] = true := by decide +kernel
theorem dt9_23 : th_dec code [(1100, .aload_n 1, 1), (1101, .aload_n 0, 1), (1102, .iload 4, 2), (1104, .iconst 1, 1), (1105, .iadd, 1), (1106, .iaload, 1), (1107, .invokevirtual 126, 3), (1110, .aload_n 2, 1), (1111, .aload_n 0, 1), (1112, .iload 4, 2), (1114, .iconst 1, 1), (1115, .iadd, 1), (1116, .iaload, 1), (1117, .invokevirtual 130, 3), (1120, .lcmp, 1), (1121, .ifCond .eq 699, 3)] = true := by decide +kernel
theorem dt9_24 : th_dec code [(1126, .aload_n 1, 1), (1127, .aload_n 0, 1), (1128, .iload 4, 2), (1130, .iconst 1, 1), (1131, .iadd, 1), (1132, .iaload, 1), (1133, .invokevirtual 131, 3), (1136, .aload_n 2, 1), (1137, .aload_n 0, 1), (1138, .iload 4, 2), (1140, .iconst 1, 1), (1141, .iadd, 1), (1142, .iaload, 1), (1143, .invokevirtual 134, 3), (1146, .if_icmp .eq 674, 3)] = true := by decide +kernel
theorem dt9_25 : th_dec code [(1151, .aload_n 1, 1), (1152, .aload_n 0, 1), (1153, .iload 4, 2), (1155, .iconst 1, 1), (1156, .iadd, 1), (1157, .iaload, 1), (1158, .aload_n 0, 1), (1159, .iload 4, 2), (1161, .iconst 2, 1), (1162, .iadd, 1), (1163, .iaload, 1), (1164, .invokevirtual 135, 3), (1167, .aload_n 2, 1), (1168, .aload_n 0, 1), (1169, .iload 4, 2), (1171, .iconst 1, 1), (1172, .iadd, 1), (1173, .iaload, 1), (1174, .aload_n 0, 1), (1175, .iload 4, 2), (1177, .iconst 2, 1), (1178, .iadd, 1), (1179, .iaload, 1), (1180, .invokevirtual 138, 3), (1183, .if_icmp .eq 637, 3)] = true := by decide +kernel
theorem dt9_26 : th_dec code [(1188, .aload_n 1, 1), (1189, .aload_n 0, 1), (1190, .iload 4, 2), (1192, .iconst 1, 1), (1193, .iadd, 1), (1194, .iaload, 1), (1195, .aload_n 0, 1), (1196, .iload 4, 2), (1198, .iconst 2, 1), (1199, .iadd, 1), (1200, .iaload, 1), (1201, .aload_n 0, 1), (1202, .iload 4, 2), (1204, .iconst 3, 1), (1205, .iadd, 1), (1206, .iaload, 1), (1207, .invokevirtual 139, 3), (1210, .aload_n 2, 1), (1211, .aload_n 0, 1), (1212, .iload 4, 2), (1214, .iconst 1, 1), (1215, .iadd, 1), (1216, .iaload, 1), (1217, .aload_n 0, 1), (1218, .iload 4, 2), (1220, .iconst 2, 1), (1221, .iadd, 1), (1222, .iaload, 1), (1223, .aload_n 0, 1), (1224, .iload 4, 2), (1226, .iconst 3, 1), (1227, .iadd, 1), (1228, .iaload, 1), (1229, .invokevirtual 142, 3), (1232, .if_icmp .eq 588, 3)] = true := by decide +kernel
theorem dt9_27 : th_dec code [(1237, .aload_n 1, 1), (1238, .aload_n 0, 1), (1239, .iload 4, 2), (1241, .iconst 1, 1), (1242, .iadd, 1), (1243, .iaload, 1), (1244, .invokevirtual 143, 3), (1247, .aload_n 2, 1), (1248, .aload_n 0, 1), (1249, .iload 4, 2), (1251, .iconst 1, 1), (1252, .iadd, 1), (1253, .iaload, 1), (1254, .invokevirtual 146, 3), (1257, .if_icmp .eq 563, 3)] = true := by decide +kernel
theorem dt9_28 : th_dec code [(1262, .aload_n 1, 1), (1263, .invokevirtual 147, 3), (1266, .aload_n 2, 1), (1267, .invokevirtual 150, 3), (1270, .if_icmp .eq 550, 3)] = true := by decide +kernel
theorem dt9_29 : th_dec code [(1275, .aload_n 1, 1), (1276, .aload_n 0, 1), (1277, .iload 4, 2), (1279, .iconst 1, 1), (1280, .iadd, 1), (1281, .iaload, 1), (1282, .invokevirtual 151, 3), (1285, .aload_n 2, 1), (1286, .aload_n 0, 1), (1287, .iload 4, 2), (1289, .iconst 1, 1), (1290, .iadd, 1), (1291, .iaload, 1), (1292, .invokevirtual 154, 3), (1295, .if_icmp .eq 525, 3)] = true := by decide +kernel
section
variable {p : Program} {l : Launch} {e : Env} {s : State} {m : MethodId} {below : List Frame} {meth : Method} {c : Code} {b L : Nat} {xs : Nat → Int32} {D : va_G} {cI cZ cJ : ClassId} {adC adM : Nat → Nat} {qo sa : Nat} {h mm : th_H} {o : Int64} {cells slots i n : Nat}
set_option maxHeartbeats 4000000 in
set_option maxRecDepth 100000 in
/-- named -/
theorem lc_15 (X : lw_X p s m meth c b L xs D cI cZ cJ adC adM qo sa) (hL : L ≤ 3072) (hi : i + 6 ≤ L) (hn : n < 512) (hR : Rel n h mm) (hcs : cells + 1 ≤ 1134 ∧ slots + 6 ≤ 14355) (kk : ∀ h2 m2 o2, Rel (n + 1) h2 m2 → lw_V p l e s m below meth c b D cI cZ cJ adC adM qo (cells + 1) (slots + 6) 23 (i + 6) [] [] h2 m2 o2) : lw_V p l e s m below meth c b D cI cZ cJ adC adM qo cells slots 790 i [] [] h mm o := by
  obtain ⟨r, h2, m2, e1, e2, hR2⟩ := s_named (xs (i + 1)) n h mm hn hR
  have hc0 : cells ≤ 1134 ∧ slots ≤ 14355 := ⟨by omega, by omega⟩
  refine L_ald1 (pc := 790) X (th_da dt9_15 0 rfl) ?_
  refine L_arg (pc := 791) (j := 1) X hL hi (by decide) (by decide) (th_da dt9_15 1 rfl) (th_da dt9_15 2 rfl) (th_da dt9_15 3 rfl) (th_da dt9_15 4 rfl) (th_da dt9_15 5 rfl) ?_
  refine L_callC (pc := 797) (st := []) X hc0 [xs (i + 1)] (th_da dt9_15 6 rfl) (mX3_named l _ _ _ _ e1) w9cd_X3_named w9ml_96 w9im_X3_named w9se_X3_named w9in_X3 h9_X3_named ⟨Nat.le_of_ble_eq_true rfl, Nat.le_of_ble_eq_true rfl⟩ (Nat.le_of_ble_eq_true rfl) rfl ?_
  refine L_ald2 (pc := 800) X (th_da dt9_15 7 rfl) ?_
  refine L_arg (pc := 801) (j := 1) X hL hi (by decide) (by decide) (th_da dt9_15 8 rfl) (th_da dt9_15 9 rfl) (th_da dt9_15 10 rfl) (th_da dt9_15 11 rfl) (th_da dt9_15 12 rfl) ?_
  refine L_callM (pc := 807) (st := [.int r]) X hc0 [xs (i + 1)] (th_da dt9_15 13 rfl) (mX4_named l _ _ _ _ e2) w9cd_X4_named w9ml_99 w9im_X4_named w9se_X4_named w9in_X4 h9_X4_named ⟨Nat.le_of_ble_eq_true rfl, Nat.le_of_ble_eq_true rfl⟩ (Nat.le_of_ble_eq_true rfl) rfl ?_
  refine L_eq (pc := 810) (tgt := 1820) X (th_da dt9_15 14 rfl) (by decide) ?_
  exact L_wide (Nat.le_add_right _ _) (Nat.le_add_right _ _) (L_next X (kk h2 m2 o hR2))
set_option maxHeartbeats 4000000 in
set_option maxRecDepth 100000 in
/-- fair -/
theorem lc_16 (X : lw_X p s m meth c b L xs D cI cZ cJ adC adM qo sa) (hl : l.stackTraces = false) (hL : L ≤ 3072) (hi : i + 6 ≤ L) (hn : n < 512) (hR : Rel n h mm) (hcs : cells + 1 ≤ 1134 ∧ slots + 6 ≤ 14355) (kk : ∀ h2 m2 o2, Rel (n + 1) h2 m2 → lw_V p l e s m below meth c b D cI cZ cJ adC adM qo (cells + 1) (slots + 6) 23 (i + 6) [] [] h2 m2 o2) : lw_V p l e s m below meth c b D cI cZ cJ adC adM qo cells slots 815 i [] [] h mm o := by
  rcases s_fair (xs (i + 1)) (xs (i + 2)) n h mm hn hR with ⟨f0, m2, e2, tt, hR2⟩ | ⟨f1, r, h2, m2, e1, e2, tt, hR2⟩
  · refine L_ald1 (pc := 815) X (th_da dt9_16 0 rfl) ?_
    refine L_arg (pc := 816) (j := 1) X hL hi (by decide) (by decide) (th_da dt9_16 1 rfl) (th_da dt9_16 2 rfl) (th_da dt9_16 3 rfl) (th_da dt9_16 4 rfl) (th_da dt9_16 5 rfl) ?_
    refine L_arg (pc := 822) (j := 2) X hL hi (by decide) (by decide) (th_da dt9_16 6 rfl) (th_da dt9_16 7 rfl) (th_da dt9_16 8 rfl) (th_da dt9_16 9 rfl) (th_da dt9_16 10 rfl) ?_
    refine L_ald3 (pc := 828) X (th_da dt9_16 11 rfl) ?_
    refine L_help (pc := 829) X hcs (th_da dt9_16 12 rfl) (fun sz => hp_thr (yH := yL_fair) (y := yX3_fair) (idx := 15) rfl rfl dth_fair w9cd_X3_fair w9ml_15 w9im_X3_fair w9se_X3_fair w9in_X3 h9_X3_fair rfl rfl ex_dfair (Nat.le_of_ble_eq_true rfl) (Nat.le_of_ble_eq_true rfl) l hl D cI cZ cJ adC qo sz sa _ _ h o f0) w9cd_L_fair w9ml_100 w9st_L_fair w9in_L h9_L_fair ?_
    refine L_ist5 (pc := 832) X (th_da dt9_16 13 rfl) ?_
    refine L_ald2 (pc := 834) X (th_da dt9_16 14 rfl) ?_
    refine L_arg (pc := 835) (j := 1) X hL hi (by decide) (by decide) (th_da dt9_16 15 rfl) (th_da dt9_16 16 rfl) (th_da dt9_16 17 rfl) (th_da dt9_16 18 rfl) (th_da dt9_16 19 rfl) ?_
    refine L_arg (pc := 841) (j := 2) X hL hi (by decide) (by decide) (th_da dt9_16 20 rfl) (th_da dt9_16 21 rfl) (th_da dt9_16 22 rfl) (th_da dt9_16 23 rfl) (th_da dt9_16 24 rfl) ?_
    refine L_callM (pc := 847) (st := []) X hcs [xs (i + 1), xs (i + 2)] (th_da dt9_16 25 rfl) (mX4_fair l _ _ _ _ _ e2) w9cd_X4_fair w9ml_102 w9im_X4_fair w9se_X4_fair w9in_X4 h9_X4_fair ⟨Nat.le_of_ble_eq_true rfl, Nat.le_of_ble_eq_true rfl⟩ (Nat.le_of_ble_eq_true rfl) rfl ?_
    refine L_ist6 (pc := 850) X (th_da dt9_16 26 rfl) ?_
    refine L_ald2 (pc := 852) X (th_da dt9_16 27 rfl) ?_
    refine L_callM (pc := 853) (st := []) X hcs [] (th_da dt9_16 28 rfl) (mX4_thrown l m2 1 m2 (by unfold fX4_thrown; rw [tt])) w9cd_X4_thrown w9ml_93 w9im_X4_thrown w9se_X4_thrown w9in_X4 h9_X4_thrown ⟨Nat.le_of_ble_eq_true rfl, Nat.le_of_ble_eq_true rfl⟩ (Nat.le_of_ble_eq_true rfl) rfl ?_
    refine L_il5 (pc := 856) X (th_da dt9_16 29 rfl) ?_
    refine L_eq (pc := 858) (tgt := 863) X (th_da dt9_16 30 rfl) (by decide) ?_
    refine L_il5 (pc := 863) X (th_da dt9_16 31 rfl) ?_
    refine L_if1 (pc := 865) (tgt := 880) X (th_da dt9_16 32 rfl) (by decide) ?_
    refine L_goto (pc := 880) (tgt := 1820) X (th_da dt9_16 33 rfl) (by decide) ?_
    exact L_next X (kk h m2 o hR2)
  · refine L_ald1 (pc := 815) X (th_da dt9_16 34 rfl) ?_
    refine L_arg (pc := 816) (j := 1) X hL hi (by decide) (by decide) (th_da dt9_16 35 rfl) (th_da dt9_16 36 rfl) (th_da dt9_16 37 rfl) (th_da dt9_16 38 rfl) (th_da dt9_16 39 rfl) ?_
    refine L_arg (pc := 822) (j := 2) X hL hi (by decide) (by decide) (th_da dt9_16 40 rfl) (th_da dt9_16 41 rfl) (th_da dt9_16 42 rfl) (th_da dt9_16 43 rfl) (th_da dt9_16 44 rfl) ?_
    refine L_ald3 (pc := 828) X (th_da dt9_16 45 rfl) ?_
    refine L_help (pc := 829) X hcs (th_da dt9_16 46 rfl) (fun sz => hp_ret (yH := yL_fair) (y := yX3_fair) (idx := 15) rfl rfl dth_fair w9cd_X3_fair w9ml_15 w9im_X3_fair w9se_X3_fair w9in_X3 h9_X3_fair ⟨Nat.le_of_ble_eq_true rfl, Nat.le_of_ble_eq_true rfl⟩ l D cI cZ cJ adC qo sz sa _ _ h o r h2 (mX3_fair l _ _ _ _ _ e1)) w9cd_L_fair w9ml_100 w9st_L_fair w9in_L h9_L_fair ?_
    refine L_ist5 (pc := 832) X (th_da dt9_16 47 rfl) ?_
    refine L_ald2 (pc := 834) X (th_da dt9_16 48 rfl) ?_
    refine L_arg (pc := 835) (j := 1) X hL hi (by decide) (by decide) (th_da dt9_16 49 rfl) (th_da dt9_16 50 rfl) (th_da dt9_16 51 rfl) (th_da dt9_16 52 rfl) (th_da dt9_16 53 rfl) ?_
    refine L_arg (pc := 841) (j := 2) X hL hi (by decide) (by decide) (th_da dt9_16 54 rfl) (th_da dt9_16 55 rfl) (th_da dt9_16 56 rfl) (th_da dt9_16 57 rfl) (th_da dt9_16 58 rfl) ?_
    refine L_callM (pc := 847) (st := []) X hcs [xs (i + 1), xs (i + 2)] (th_da dt9_16 59 rfl) (mX4_fair l _ _ _ _ _ e2) w9cd_X4_fair w9ml_102 w9im_X4_fair w9se_X4_fair w9in_X4 h9_X4_fair ⟨Nat.le_of_ble_eq_true rfl, Nat.le_of_ble_eq_true rfl⟩ (Nat.le_of_ble_eq_true rfl) rfl ?_
    refine L_ist6 (pc := 850) X (th_da dt9_16 60 rfl) ?_
    refine L_ald2 (pc := 852) X (th_da dt9_16 61 rfl) ?_
    refine L_callM (pc := 853) (st := []) X hcs [] (th_da dt9_16 62 rfl) (mX4_thrown l m2 0 m2 (by unfold fX4_thrown; rw [tt])) w9cd_X4_thrown w9ml_93 w9im_X4_thrown w9se_X4_thrown w9in_X4 h9_X4_thrown ⟨Nat.le_of_ble_eq_true rfl, Nat.le_of_ble_eq_true rfl⟩ (Nat.le_of_ble_eq_true rfl) rfl ?_
    refine L_il5 (pc := 856) X (th_da dt9_16 63 rfl) ?_
    refine L_eq (pc := 858) (tgt := 863) X (th_da dt9_16 64 rfl) (by decide) ?_
    refine L_il5 (pc := 863) X (th_da dt9_16 65 rfl) ?_
    refine L_if0 (pc := 865) (tgt := 880) X (th_da dt9_16 66 rfl) (by decide) ?_
    refine L_out (pc := 868) X (th_da dt9_16 67 rfl) (th_da dt9_16 68 rfl) (th_da dt9_16 69 rfl) ?_
    refine L_il6 (pc := 871) X (th_da dt9_16 70 rfl) ?_
    refine L_i2l (pc := 873) X (th_da dt9_16 71 rfl) ?_
    refine L_leq (pc := 874) (tgt := 880) X (th_da dt9_16 72 rfl) (th_da dt9_16 73 rfl) (by decide) ?_
    refine L_goto (pc := 880) (tgt := 1820) X (th_da dt9_16 74 rfl) (by decide) ?_
    exact L_next X (kk h2 m2 _ hR2)
set_option maxHeartbeats 4000000 in
set_option maxRecDepth 100000 in
/-- used -/
theorem lc_17 (X : lw_X p s m meth c b L xs D cI cZ cJ adC adM qo sa) (hL : L ≤ 3072) (hi : i + 6 ≤ L) (hn : n < 512) (hR : Rel n h mm) (hcs : cells + 1 ≤ 1134 ∧ slots + 6 ≤ 14355) (kk : ∀ h2 m2 o2, Rel (n + 1) h2 m2 → lw_V p l e s m below meth c b D cI cZ cJ adC adM qo (cells + 1) (slots + 6) 23 (i + 6) [] [] h2 m2 o2) : lw_V p l e s m below meth c b D cI cZ cJ adC adM qo cells slots 883 i [] [] h mm o := by
  obtain ⟨r, h2, m2, e1, e2, hR2⟩ := s_used (xs (i + 1)) (xs (i + 2)) n h mm hn hR
  have hc0 : cells ≤ 1134 ∧ slots ≤ 14355 := ⟨by omega, by omega⟩
  refine L_ald1 (pc := 883) X (th_da dt9_17 0 rfl) ?_
  refine L_arg (pc := 884) (j := 1) X hL hi (by decide) (by decide) (th_da dt9_17 1 rfl) (th_da dt9_17 2 rfl) (th_da dt9_17 3 rfl) (th_da dt9_17 4 rfl) (th_da dt9_17 5 rfl) ?_
  refine L_arg (pc := 890) (j := 2) X hL hi (by decide) (by decide) (th_da dt9_17 6 rfl) (th_da dt9_17 7 rfl) (th_da dt9_17 8 rfl) (th_da dt9_17 9 rfl) (th_da dt9_17 10 rfl) ?_
  refine L_callC (pc := 896) (st := []) X hc0 [xs (i + 1), xs (i + 2)] (th_da dt9_17 11 rfl) (mX3_used l _ _ _ _ _ e1) w9cd_X3_used w9ml_103 w9im_X3_used w9se_X3_used w9in_X3 h9_X3_used ⟨Nat.le_of_ble_eq_true rfl, Nat.le_of_ble_eq_true rfl⟩ (Nat.le_of_ble_eq_true rfl) rfl ?_
  refine L_ald2 (pc := 899) X (th_da dt9_17 12 rfl) ?_
  refine L_arg (pc := 900) (j := 1) X hL hi (by decide) (by decide) (th_da dt9_17 13 rfl) (th_da dt9_17 14 rfl) (th_da dt9_17 15 rfl) (th_da dt9_17 16 rfl) (th_da dt9_17 17 rfl) ?_
  refine L_arg (pc := 906) (j := 2) X hL hi (by decide) (by decide) (th_da dt9_17 18 rfl) (th_da dt9_17 19 rfl) (th_da dt9_17 20 rfl) (th_da dt9_17 21 rfl) (th_da dt9_17 22 rfl) ?_
  refine L_callM (pc := 912) (st := [.int r]) X hc0 [xs (i + 1), xs (i + 2)] (th_da dt9_17 23 rfl) (mX4_used l _ _ _ _ _ e2) w9cd_X4_used w9ml_106 w9im_X4_used w9se_X4_used w9in_X4 h9_X4_used ⟨Nat.le_of_ble_eq_true rfl, Nat.le_of_ble_eq_true rfl⟩ (Nat.le_of_ble_eq_true rfl) rfl ?_
  refine L_eq (pc := 915) (tgt := 1820) X (th_da dt9_17 24 rfl) (by decide) ?_
  exact L_wide (Nat.le_add_right _ _) (Nat.le_add_right _ _) (L_next X (kk h2 m2 o hR2))
set_option maxHeartbeats 4000000 in
set_option maxRecDepth 100000 in
/-- water -/
theorem lc_18 (X : lw_X p s m meth c b L xs D cI cZ cJ adC adM qo sa) (hL : L ≤ 3072) (hi : i + 6 ≤ L) (hn : n < 512) (hR : Rel n h mm) (hcs : cells + 1 ≤ 1134 ∧ slots + 6 ≤ 14355) (kk : ∀ h2 m2 o2, Rel (n + 1) h2 m2 → lw_V p l e s m below meth c b D cI cZ cJ adC adM qo (cells + 1) (slots + 6) 23 (i + 6) [] [] h2 m2 o2) : lw_V p l e s m below meth c b D cI cZ cJ adC adM qo cells slots 920 i [] [] h mm o := by
  obtain ⟨r, h2, m2, e1, e2, hR2⟩ := s_water (xs (i + 1)) n h mm hn hR
  have hc0 : cells ≤ 1134 ∧ slots ≤ 14355 := ⟨by omega, by omega⟩
  refine L_ald1 (pc := 920) X (th_da dt9_18 0 rfl) ?_
  refine L_arg (pc := 921) (j := 1) X hL hi (by decide) (by decide) (th_da dt9_18 1 rfl) (th_da dt9_18 2 rfl) (th_da dt9_18 3 rfl) (th_da dt9_18 4 rfl) (th_da dt9_18 5 rfl) ?_
  refine L_callC (pc := 927) (st := []) X hc0 [xs (i + 1)] (th_da dt9_18 6 rfl) (mX3_water l _ _ _ _ e1) w9cd_X3_water w9ml_107 w9im_X3_water w9se_X3_water w9in_X3 h9_X3_water ⟨Nat.le_of_ble_eq_true rfl, Nat.le_of_ble_eq_true rfl⟩ (Nat.le_of_ble_eq_true rfl) rfl ?_
  refine L_ald2 (pc := 930) X (th_da dt9_18 7 rfl) ?_
  refine L_arg (pc := 931) (j := 1) X hL hi (by decide) (by decide) (th_da dt9_18 8 rfl) (th_da dt9_18 9 rfl) (th_da dt9_18 10 rfl) (th_da dt9_18 11 rfl) (th_da dt9_18 12 rfl) ?_
  refine L_callM (pc := 937) (st := [.int r]) X hc0 [xs (i + 1)] (th_da dt9_18 13 rfl) (mX4_water l _ _ _ _ e2) w9cd_X4_water w9ml_110 w9im_X4_water w9se_X4_water w9in_X4 h9_X4_water ⟨Nat.le_of_ble_eq_true rfl, Nat.le_of_ble_eq_true rfl⟩ (Nat.le_of_ble_eq_true rfl) rfl ?_
  refine L_eq (pc := 940) (tgt := 1820) X (th_da dt9_18 14 rfl) (by decide) ?_
  exact L_wide (Nat.le_add_right _ _) (Nat.le_add_right _ _) (L_next X (kk h2 m2 o hR2))
set_option maxHeartbeats 4000000 in
set_option maxRecDepth 100000 in
/-- step -/
theorem lc_19 (X : lw_X p s m meth c b L xs D cI cZ cJ adC adM qo sa) (hL : L ≤ 3072) (hi : i + 6 ≤ L) (hn : n < 512) (hR : Rel n h mm) (hcs : cells + 1 ≤ 1134 ∧ slots + 6 ≤ 14355) (kk : ∀ h2 m2 o2, Rel (n + 1) h2 m2 → lw_V p l e s m below meth c b D cI cZ cJ adC adM qo (cells + 1) (slots + 6) 23 (i + 6) [] [] h2 m2 o2) : lw_V p l e s m below meth c b D cI cZ cJ adC adM qo cells slots 945 i [] [] h mm o := by
  obtain ⟨r, h2, m2, e1, e2, hR2⟩ := s_step (xs (i + 1)) (xs (i + 2)) n h mm hn hR
  have hc0 : cells ≤ 1134 ∧ slots ≤ 14355 := ⟨by omega, by omega⟩
  refine L_ald1 (pc := 945) X (th_da dt9_19 0 rfl) ?_
  refine L_arg (pc := 946) (j := 1) X hL hi (by decide) (by decide) (th_da dt9_19 1 rfl) (th_da dt9_19 2 rfl) (th_da dt9_19 3 rfl) (th_da dt9_19 4 rfl) (th_da dt9_19 5 rfl) ?_
  refine L_arg (pc := 952) (j := 2) X hL hi (by decide) (by decide) (th_da dt9_19 6 rfl) (th_da dt9_19 7 rfl) (th_da dt9_19 8 rfl) (th_da dt9_19 9 rfl) (th_da dt9_19 10 rfl) ?_
  refine L_callC (pc := 958) (st := []) X hc0 [xs (i + 1), xs (i + 2)] (th_da dt9_19 11 rfl) (mX3_step l _ _ _ _ _ e1) w9cd_X3_step w9ml_111 w9im_X3_step w9se_X3_step w9in_X3 h9_X3_step ⟨Nat.le_of_ble_eq_true rfl, Nat.le_of_ble_eq_true rfl⟩ (Nat.le_of_ble_eq_true rfl) rfl ?_
  refine L_ald2 (pc := 961) X (th_da dt9_19 12 rfl) ?_
  refine L_arg (pc := 962) (j := 1) X hL hi (by decide) (by decide) (th_da dt9_19 13 rfl) (th_da dt9_19 14 rfl) (th_da dt9_19 15 rfl) (th_da dt9_19 16 rfl) (th_da dt9_19 17 rfl) ?_
  refine L_arg (pc := 968) (j := 2) X hL hi (by decide) (by decide) (th_da dt9_19 18 rfl) (th_da dt9_19 19 rfl) (th_da dt9_19 20 rfl) (th_da dt9_19 21 rfl) (th_da dt9_19 22 rfl) ?_
  refine L_callM (pc := 974) (st := [.int r]) X hc0 [xs (i + 1), xs (i + 2)] (th_da dt9_19 23 rfl) (mX4_step l _ _ _ _ _ e2) w9cd_X4_step w9ml_114 w9im_X4_step w9se_X4_step w9in_X4 h9_X4_step ⟨Nat.le_of_ble_eq_true rfl, Nat.le_of_ble_eq_true rfl⟩ (Nat.le_of_ble_eq_true rfl) rfl ?_
  refine L_eq (pc := 977) (tgt := 1820) X (th_da dt9_19 24 rfl) (by decide) ?_
  exact L_wide (Nat.le_add_right _ _) (Nat.le_add_right _ _) (L_next X (kk h2 m2 o hR2))
set_option maxHeartbeats 4000000 in
set_option maxRecDepth 100000 in
/-- ranked -/
theorem lc_20 (X : lw_X p s m meth c b L xs D cI cZ cJ adC adM qo sa) (hL : L ≤ 3072) (hi : i + 6 ≤ L) (hn : n < 512) (hR : Rel n h mm) (hcs : cells + 1 ≤ 1134 ∧ slots + 6 ≤ 14355) (kk : ∀ h2 m2 o2, Rel (n + 1) h2 m2 → lw_V p l e s m below meth c b D cI cZ cJ adC adM qo (cells + 1) (slots + 6) 23 (i + 6) [] [] h2 m2 o2) : lw_V p l e s m below meth c b D cI cZ cJ adC adM qo cells slots 982 i [] [] h mm o := by
  obtain ⟨r, h2, m2, e1, e2, hR2⟩ := s_ranked (xs (i + 1)) n h mm hn hR
  have hc0 : cells ≤ 1134 ∧ slots ≤ 14355 := ⟨by omega, by omega⟩
  refine L_ald1 (pc := 982) X (th_da dt9_20 0 rfl) ?_
  refine L_arg (pc := 983) (j := 1) X hL hi (by decide) (by decide) (th_da dt9_20 1 rfl) (th_da dt9_20 2 rfl) (th_da dt9_20 3 rfl) (th_da dt9_20 4 rfl) (th_da dt9_20 5 rfl) ?_
  refine L_callC (pc := 989) (st := []) X hc0 [xs (i + 1)] (th_da dt9_20 6 rfl) (mX3_ranked l _ _ _ _ e1) w9cd_X3_ranked w9ml_115 w9im_X3_ranked w9se_X3_ranked w9in_X3 h9_X3_ranked ⟨Nat.le_of_ble_eq_true rfl, Nat.le_of_ble_eq_true rfl⟩ (Nat.le_of_ble_eq_true rfl) rfl ?_
  refine L_ald2 (pc := 992) X (th_da dt9_20 7 rfl) ?_
  refine L_arg (pc := 993) (j := 1) X hL hi (by decide) (by decide) (th_da dt9_20 8 rfl) (th_da dt9_20 9 rfl) (th_da dt9_20 10 rfl) (th_da dt9_20 11 rfl) (th_da dt9_20 12 rfl) ?_
  refine L_callM (pc := 999) (st := [.int r]) X hc0 [xs (i + 1)] (th_da dt9_20 13 rfl) (mX4_ranked l _ _ _ _ e2) w9cd_X4_ranked w9ml_118 w9im_X4_ranked w9se_X4_ranked w9in_X4 h9_X4_ranked ⟨Nat.le_of_ble_eq_true rfl, Nat.le_of_ble_eq_true rfl⟩ (Nat.le_of_ble_eq_true rfl) rfl ?_
  refine L_eq (pc := 1002) (tgt := 1820) X (th_da dt9_20 14 rfl) (by decide) ?_
  exact L_wide (Nat.le_add_right _ _) (Nat.le_add_right _ _) (L_next X (kk h2 m2 o hR2))
set_option maxHeartbeats 4000000 in
set_option maxRecDepth 100000 in
/-- proof -/
theorem lc_21 (X : lw_X p s m meth c b L xs D cI cZ cJ adC adM qo sa) (hl : l.stackTraces = false) (hL : L ≤ 3072) (hi : i + 6 ≤ L) (hn : n < 512) (hR : Rel n h mm) (hcs : cells + 1 ≤ 1134 ∧ slots + 6 ≤ 14355) (kk : ∀ h2 m2 o2, Rel (n + 1) h2 m2 → lw_V p l e s m below meth c b D cI cZ cJ adC adM qo (cells + 1) (slots + 6) 23 (i + 6) [] [] h2 m2 o2) : lw_V p l e s m below meth c b D cI cZ cJ adC adM qo cells slots 1007 i [] [] h mm o := by
  rcases s_proof (xs (i + 1)) (xs (i + 2)) n h mm hn hR with ⟨f0, m2, e2, tt, hR2⟩ | ⟨f1, r, h2, m2, e1, e2, tt, hR2⟩
  · refine L_ald1 (pc := 1007) X (th_da dt9_21 0 rfl) ?_
    refine L_arg (pc := 1008) (j := 1) X hL hi (by decide) (by decide) (th_da dt9_21 1 rfl) (th_da dt9_21 2 rfl) (th_da dt9_21 3 rfl) (th_da dt9_21 4 rfl) (th_da dt9_21 5 rfl) ?_
    refine L_arg (pc := 1014) (j := 2) X hL hi (by decide) (by decide) (th_da dt9_21 6 rfl) (th_da dt9_21 7 rfl) (th_da dt9_21 8 rfl) (th_da dt9_21 9 rfl) (th_da dt9_21 10 rfl) ?_
    refine L_ald3 (pc := 1020) X (th_da dt9_21 11 rfl) ?_
    refine L_help (pc := 1021) X hcs (th_da dt9_21 12 rfl) (fun sz => hp_thr (yH := yL_proof) (y := yX3_proof) (idx := 18) rfl rfl dth_proof w9cd_X3_proof w9ml_18 w9im_X3_proof w9se_X3_proof w9in_X3 h9_X3_proof rfl rfl ex_dproof (Nat.le_of_ble_eq_true rfl) (Nat.le_of_ble_eq_true rfl) l hl D cI cZ cJ adC qo sz sa _ _ h o f0) w9cd_L_proof w9ml_119 w9st_L_proof w9in_L h9_L_proof ?_
    refine L_ist5 (pc := 1024) X (th_da dt9_21 13 rfl) ?_
    refine L_ald2 (pc := 1026) X (th_da dt9_21 14 rfl) ?_
    refine L_arg (pc := 1027) (j := 1) X hL hi (by decide) (by decide) (th_da dt9_21 15 rfl) (th_da dt9_21 16 rfl) (th_da dt9_21 17 rfl) (th_da dt9_21 18 rfl) (th_da dt9_21 19 rfl) ?_
    refine L_arg (pc := 1033) (j := 2) X hL hi (by decide) (by decide) (th_da dt9_21 20 rfl) (th_da dt9_21 21 rfl) (th_da dt9_21 22 rfl) (th_da dt9_21 23 rfl) (th_da dt9_21 24 rfl) ?_
    refine L_callM (pc := 1039) (st := []) X hcs [xs (i + 1), xs (i + 2)] (th_da dt9_21 25 rfl) (mX4_proof l _ _ _ _ _ e2) w9cd_X4_proof w9ml_121 w9im_X4_proof w9se_X4_proof w9in_X4 h9_X4_proof ⟨Nat.le_of_ble_eq_true rfl, Nat.le_of_ble_eq_true rfl⟩ (Nat.le_of_ble_eq_true rfl) rfl ?_
    refine L_ist6 (pc := 1042) X (th_da dt9_21 26 rfl) ?_
    refine L_ald2 (pc := 1044) X (th_da dt9_21 27 rfl) ?_
    refine L_callM (pc := 1045) (st := []) X hcs [] (th_da dt9_21 28 rfl) (mX4_thrown l m2 1 m2 (by unfold fX4_thrown; rw [tt])) w9cd_X4_thrown w9ml_93 w9im_X4_thrown w9se_X4_thrown w9in_X4 h9_X4_thrown ⟨Nat.le_of_ble_eq_true rfl, Nat.le_of_ble_eq_true rfl⟩ (Nat.le_of_ble_eq_true rfl) rfl ?_
    refine L_il5 (pc := 1048) X (th_da dt9_21 29 rfl) ?_
    refine L_eq (pc := 1050) (tgt := 1055) X (th_da dt9_21 30 rfl) (by decide) ?_
    refine L_il5 (pc := 1055) X (th_da dt9_21 31 rfl) ?_
    refine L_if1 (pc := 1057) (tgt := 1072) X (th_da dt9_21 32 rfl) (by decide) ?_
    refine L_goto (pc := 1072) (tgt := 1820) X (th_da dt9_21 33 rfl) (by decide) ?_
    exact L_next X (kk h m2 o hR2)
  · refine L_ald1 (pc := 1007) X (th_da dt9_21 34 rfl) ?_
    refine L_arg (pc := 1008) (j := 1) X hL hi (by decide) (by decide) (th_da dt9_21 35 rfl) (th_da dt9_21 36 rfl) (th_da dt9_21 37 rfl) (th_da dt9_21 38 rfl) (th_da dt9_21 39 rfl) ?_
    refine L_arg (pc := 1014) (j := 2) X hL hi (by decide) (by decide) (th_da dt9_21 40 rfl) (th_da dt9_21 41 rfl) (th_da dt9_21 42 rfl) (th_da dt9_21 43 rfl) (th_da dt9_21 44 rfl) ?_
    refine L_ald3 (pc := 1020) X (th_da dt9_21 45 rfl) ?_
    refine L_help (pc := 1021) X hcs (th_da dt9_21 46 rfl) (fun sz => hp_ret (yH := yL_proof) (y := yX3_proof) (idx := 18) rfl rfl dth_proof w9cd_X3_proof w9ml_18 w9im_X3_proof w9se_X3_proof w9in_X3 h9_X3_proof ⟨Nat.le_of_ble_eq_true rfl, Nat.le_of_ble_eq_true rfl⟩ l D cI cZ cJ adC qo sz sa _ _ h o r h2 (mX3_proof l _ _ _ _ _ e1)) w9cd_L_proof w9ml_119 w9st_L_proof w9in_L h9_L_proof ?_
    refine L_ist5 (pc := 1024) X (th_da dt9_21 47 rfl) ?_
    refine L_ald2 (pc := 1026) X (th_da dt9_21 48 rfl) ?_
    refine L_arg (pc := 1027) (j := 1) X hL hi (by decide) (by decide) (th_da dt9_21 49 rfl) (th_da dt9_21 50 rfl) (th_da dt9_21 51 rfl) (th_da dt9_21 52 rfl) (th_da dt9_21 53 rfl) ?_
    refine L_arg (pc := 1033) (j := 2) X hL hi (by decide) (by decide) (th_da dt9_21 54 rfl) (th_da dt9_21 55 rfl) (th_da dt9_21 56 rfl) (th_da dt9_21 57 rfl) (th_da dt9_21 58 rfl) ?_
    refine L_callM (pc := 1039) (st := []) X hcs [xs (i + 1), xs (i + 2)] (th_da dt9_21 59 rfl) (mX4_proof l _ _ _ _ _ e2) w9cd_X4_proof w9ml_121 w9im_X4_proof w9se_X4_proof w9in_X4 h9_X4_proof ⟨Nat.le_of_ble_eq_true rfl, Nat.le_of_ble_eq_true rfl⟩ (Nat.le_of_ble_eq_true rfl) rfl ?_
    refine L_ist6 (pc := 1042) X (th_da dt9_21 60 rfl) ?_
    refine L_ald2 (pc := 1044) X (th_da dt9_21 61 rfl) ?_
    refine L_callM (pc := 1045) (st := []) X hcs [] (th_da dt9_21 62 rfl) (mX4_thrown l m2 0 m2 (by unfold fX4_thrown; rw [tt])) w9cd_X4_thrown w9ml_93 w9im_X4_thrown w9se_X4_thrown w9in_X4 h9_X4_thrown ⟨Nat.le_of_ble_eq_true rfl, Nat.le_of_ble_eq_true rfl⟩ (Nat.le_of_ble_eq_true rfl) rfl ?_
    refine L_il5 (pc := 1048) X (th_da dt9_21 63 rfl) ?_
    refine L_eq (pc := 1050) (tgt := 1055) X (th_da dt9_21 64 rfl) (by decide) ?_
    refine L_il5 (pc := 1055) X (th_da dt9_21 65 rfl) ?_
    refine L_if0 (pc := 1057) (tgt := 1072) X (th_da dt9_21 66 rfl) (by decide) ?_
    refine L_out (pc := 1060) X (th_da dt9_21 67 rfl) (th_da dt9_21 68 rfl) (th_da dt9_21 69 rfl) ?_
    refine L_il6 (pc := 1063) X (th_da dt9_21 70 rfl) ?_
    refine L_i2l (pc := 1065) X (th_da dt9_21 71 rfl) ?_
    refine L_leq (pc := 1066) (tgt := 1072) X (th_da dt9_21 72 rfl) (th_da dt9_21 73 rfl) (by decide) ?_
    refine L_goto (pc := 1072) (tgt := 1820) X (th_da dt9_21 74 rfl) (by decide) ?_
    exact L_next X (kk h2 m2 _ hR2)
set_option maxHeartbeats 4000000 in
set_option maxRecDepth 100000 in
/-- fullest -/
theorem lc_22 (X : lw_X p s m meth c b L xs D cI cZ cJ adC adM qo sa) (hL : L ≤ 3072) (hi : i + 6 ≤ L) (hn : n < 512) (hR : Rel n h mm) (hcs : cells + 1 ≤ 1134 ∧ slots + 6 ≤ 14355) (kk : ∀ h2 m2 o2, Rel (n + 1) h2 m2 → lw_V p l e s m below meth c b D cI cZ cJ adC adM qo (cells + 1) (slots + 6) 23 (i + 6) [] [] h2 m2 o2) : lw_V p l e s m below meth c b D cI cZ cJ adC adM qo cells slots 1075 i [] [] h mm o := by
  obtain ⟨r, h2, m2, e1, e2, hR2⟩ := s_fullest (xs (i + 1)) n h mm hn hR
  have hc0 : cells ≤ 1134 ∧ slots ≤ 14355 := ⟨by omega, by omega⟩
  refine L_ald1 (pc := 1075) X (th_da dt9_22 0 rfl) ?_
  refine L_arg (pc := 1076) (j := 1) X hL hi (by decide) (by decide) (th_da dt9_22 1 rfl) (th_da dt9_22 2 rfl) (th_da dt9_22 3 rfl) (th_da dt9_22 4 rfl) (th_da dt9_22 5 rfl) ?_
  refine L_callC (pc := 1082) (st := []) X hc0 [xs (i + 1)] (th_da dt9_22 6 rfl) (mX3_fullest l _ _ _ _ e1) w9cd_X3_fullest w9ml_122 w9im_X3_fullest w9se_X3_fullest w9in_X3 h9_X3_fullest ⟨Nat.le_of_ble_eq_true rfl, Nat.le_of_ble_eq_true rfl⟩ (Nat.le_of_ble_eq_true rfl) rfl ?_
  refine L_ald2 (pc := 1085) X (th_da dt9_22 7 rfl) ?_
  refine L_arg (pc := 1086) (j := 1) X hL hi (by decide) (by decide) (th_da dt9_22 8 rfl) (th_da dt9_22 9 rfl) (th_da dt9_22 10 rfl) (th_da dt9_22 11 rfl) (th_da dt9_22 12 rfl) ?_
  refine L_callM (pc := 1092) (st := [.int r]) X hc0 [xs (i + 1)] (th_da dt9_22 13 rfl) (mX4_fullest l _ _ _ _ e2) w9cd_X4_fullest w9ml_125 w9im_X4_fullest w9se_X4_fullest w9in_X4 h9_X4_fullest ⟨Nat.le_of_ble_eq_true rfl, Nat.le_of_ble_eq_true rfl⟩ (Nat.le_of_ble_eq_true rfl) rfl ?_
  refine L_eq (pc := 1095) (tgt := 1820) X (th_da dt9_22 14 rfl) (by decide) ?_
  exact L_wide (Nat.le_add_right _ _) (Nat.le_add_right _ _) (L_next X (kk h2 m2 o hR2))
set_option maxHeartbeats 4000000 in
set_option maxRecDepth 100000 in
/-- even -/
theorem lc_23 (X : lw_X p s m meth c b L xs D cI cZ cJ adC adM qo sa) (hL : L ≤ 3072) (hi : i + 6 ≤ L) (hn : n < 512) (hR : Rel n h mm) (hcs : cells + 1 ≤ 1134 ∧ slots + 6 ≤ 14355) (kk : ∀ h2 m2 o2, Rel (n + 1) h2 m2 → lw_V p l e s m below meth c b D cI cZ cJ adC adM qo (cells + 1) (slots + 6) 23 (i + 6) [] [] h2 m2 o2) : lw_V p l e s m below meth c b D cI cZ cJ adC adM qo cells slots 1100 i [] [] h mm o := by
  obtain ⟨r, h2, m2, e1, e2, hR2⟩ := s_even (xs (i + 1)) n h mm hn hR
  have hc0 : cells ≤ 1134 ∧ slots ≤ 14355 := ⟨by omega, by omega⟩
  refine L_ald1 (pc := 1100) X (th_da dt9_23 0 rfl) ?_
  refine L_arg (pc := 1101) (j := 1) X hL hi (by decide) (by decide) (th_da dt9_23 1 rfl) (th_da dt9_23 2 rfl) (th_da dt9_23 3 rfl) (th_da dt9_23 4 rfl) (th_da dt9_23 5 rfl) ?_
  refine L_callC (pc := 1107) (st := []) X hc0 [xs (i + 1)] (th_da dt9_23 6 rfl) (mX3_even l _ _ _ _ e1) w9cd_X3_even w9ml_126 w9im_X3_even w9se_X3_even w9in_X3 h9_X3_even ⟨Nat.le_of_ble_eq_true rfl, Nat.le_of_ble_eq_true rfl⟩ (Nat.le_of_ble_eq_true rfl) rfl ?_
  refine L_ald2 (pc := 1110) X (th_da dt9_23 7 rfl) ?_
  refine L_arg (pc := 1111) (j := 1) X hL hi (by decide) (by decide) (th_da dt9_23 8 rfl) (th_da dt9_23 9 rfl) (th_da dt9_23 10 rfl) (th_da dt9_23 11 rfl) (th_da dt9_23 12 rfl) ?_
  refine L_callM (pc := 1117) (st := [.long r]) X hc0 [xs (i + 1)] (th_da dt9_23 13 rfl) (mX4_even l _ _ _ _ e2) w9cd_X4_even w9ml_130 w9im_X4_even w9se_X4_even w9in_X4 h9_X4_even ⟨Nat.le_of_ble_eq_true rfl, Nat.le_of_ble_eq_true rfl⟩ (Nat.le_of_ble_eq_true rfl) rfl ?_
  refine L_leq (pc := 1120) (tgt := 1820) X (th_da dt9_23 14 rfl) (th_da dt9_23 15 rfl) (by decide) ?_
  exact L_wide (Nat.le_add_right _ _) (Nat.le_add_right _ _) (L_next X (kk h2 m2 o hR2))
set_option maxHeartbeats 4000000 in
set_option maxRecDepth 100000 in
/-- advertised -/
theorem lc_24 (X : lw_X p s m meth c b L xs D cI cZ cJ adC adM qo sa) (hL : L ≤ 3072) (hi : i + 6 ≤ L) (hn : n < 512) (hR : Rel n h mm) (hcs : cells + 1 ≤ 1134 ∧ slots + 6 ≤ 14355) (kk : ∀ h2 m2 o2, Rel (n + 1) h2 m2 → lw_V p l e s m below meth c b D cI cZ cJ adC adM qo (cells + 1) (slots + 6) 23 (i + 6) [] [] h2 m2 o2) : lw_V p l e s m below meth c b D cI cZ cJ adC adM qo cells slots 1126 i [] [] h mm o := by
  obtain ⟨r, h2, m2, e1, e2, hR2⟩ := s_advertised (xs (i + 1)) n h mm hn hR
  have hc0 : cells ≤ 1134 ∧ slots ≤ 14355 := ⟨by omega, by omega⟩
  refine L_ald1 (pc := 1126) X (th_da dt9_24 0 rfl) ?_
  refine L_arg (pc := 1127) (j := 1) X hL hi (by decide) (by decide) (th_da dt9_24 1 rfl) (th_da dt9_24 2 rfl) (th_da dt9_24 3 rfl) (th_da dt9_24 4 rfl) (th_da dt9_24 5 rfl) ?_
  refine L_callC (pc := 1133) (st := []) X hc0 [xs (i + 1)] (th_da dt9_24 6 rfl) (mX3_advertised l _ _ _ _ e1) w9cd_X3_advertised w9ml_131 w9im_X3_advertised w9se_X3_advertised w9in_X3 h9_X3_advertised ⟨Nat.le_of_ble_eq_true rfl, Nat.le_of_ble_eq_true rfl⟩ (Nat.le_of_ble_eq_true rfl) rfl ?_
  refine L_ald2 (pc := 1136) X (th_da dt9_24 7 rfl) ?_
  refine L_arg (pc := 1137) (j := 1) X hL hi (by decide) (by decide) (th_da dt9_24 8 rfl) (th_da dt9_24 9 rfl) (th_da dt9_24 10 rfl) (th_da dt9_24 11 rfl) (th_da dt9_24 12 rfl) ?_
  refine L_callM (pc := 1143) (st := [.int r]) X hc0 [xs (i + 1)] (th_da dt9_24 13 rfl) (mX4_advertised l _ _ _ _ e2) w9cd_X4_advertised w9ml_134 w9im_X4_advertised w9se_X4_advertised w9in_X4 h9_X4_advertised ⟨Nat.le_of_ble_eq_true rfl, Nat.le_of_ble_eq_true rfl⟩ (Nat.le_of_ble_eq_true rfl) rfl ?_
  refine L_eq (pc := 1146) (tgt := 1820) X (th_da dt9_24 14 rfl) (by decide) ?_
  exact L_wide (Nat.le_add_right _ _) (Nat.le_add_right _ _) (L_next X (kk h2 m2 o hR2))
set_option maxHeartbeats 4000000 in
set_option maxRecDepth 100000 in
/-- pass -/
theorem lc_25 (X : lw_X p s m meth c b L xs D cI cZ cJ adC adM qo sa) (hL : L ≤ 3072) (hi : i + 6 ≤ L) (hn : n < 512) (hR : Rel n h mm) (hcs : cells + 1 ≤ 1134 ∧ slots + 6 ≤ 14355) (kk : ∀ h2 m2 o2, Rel (n + 1) h2 m2 → lw_V p l e s m below meth c b D cI cZ cJ adC adM qo (cells + 1) (slots + 6) 23 (i + 6) [] [] h2 m2 o2) : lw_V p l e s m below meth c b D cI cZ cJ adC adM qo cells slots 1151 i [] [] h mm o := by
  obtain ⟨r, h2, m2, e1, e2, hR2⟩ := s_pass (xs (i + 1)) (xs (i + 2)) n h mm hn hR
  have hc0 : cells ≤ 1134 ∧ slots ≤ 14355 := ⟨by omega, by omega⟩
  refine L_ald1 (pc := 1151) X (th_da dt9_25 0 rfl) ?_
  refine L_arg (pc := 1152) (j := 1) X hL hi (by decide) (by decide) (th_da dt9_25 1 rfl) (th_da dt9_25 2 rfl) (th_da dt9_25 3 rfl) (th_da dt9_25 4 rfl) (th_da dt9_25 5 rfl) ?_
  refine L_arg (pc := 1158) (j := 2) X hL hi (by decide) (by decide) (th_da dt9_25 6 rfl) (th_da dt9_25 7 rfl) (th_da dt9_25 8 rfl) (th_da dt9_25 9 rfl) (th_da dt9_25 10 rfl) ?_
  refine L_callC (pc := 1164) (st := []) X hc0 [xs (i + 1), xs (i + 2)] (th_da dt9_25 11 rfl) (mX3_pass l _ _ _ _ _ e1) w9cd_X3_pass w9ml_135 w9im_X3_pass w9se_X3_pass w9in_X3 h9_X3_pass ⟨Nat.le_of_ble_eq_true rfl, Nat.le_of_ble_eq_true rfl⟩ (Nat.le_of_ble_eq_true rfl) rfl ?_
  refine L_ald2 (pc := 1167) X (th_da dt9_25 12 rfl) ?_
  refine L_arg (pc := 1168) (j := 1) X hL hi (by decide) (by decide) (th_da dt9_25 13 rfl) (th_da dt9_25 14 rfl) (th_da dt9_25 15 rfl) (th_da dt9_25 16 rfl) (th_da dt9_25 17 rfl) ?_
  refine L_arg (pc := 1174) (j := 2) X hL hi (by decide) (by decide) (th_da dt9_25 18 rfl) (th_da dt9_25 19 rfl) (th_da dt9_25 20 rfl) (th_da dt9_25 21 rfl) (th_da dt9_25 22 rfl) ?_
  refine L_callM (pc := 1180) (st := [.int r]) X hc0 [xs (i + 1), xs (i + 2)] (th_da dt9_25 23 rfl) (mX4_pass l _ _ _ _ _ e2) w9cd_X4_pass w9ml_138 w9im_X4_pass w9se_X4_pass w9in_X4 h9_X4_pass ⟨Nat.le_of_ble_eq_true rfl, Nat.le_of_ble_eq_true rfl⟩ (Nat.le_of_ble_eq_true rfl) rfl ?_
  refine L_eq (pc := 1183) (tgt := 1820) X (th_da dt9_25 24 rfl) (by decide) ?_
  exact L_wide (Nat.le_add_right _ _) (Nat.le_add_right _ _) (L_next X (kk h2 m2 o hR2))
set_option maxHeartbeats 4000000 in
set_option maxRecDepth 100000 in
/-- known -/
theorem lc_26 (X : lw_X p s m meth c b L xs D cI cZ cJ adC adM qo sa) (hL : L ≤ 3072) (hi : i + 6 ≤ L) (hn : n < 512) (hR : Rel n h mm) (hcs : cells + 1 ≤ 1134 ∧ slots + 6 ≤ 14355) (kk : ∀ h2 m2 o2, Rel (n + 1) h2 m2 → lw_V p l e s m below meth c b D cI cZ cJ adC adM qo (cells + 1) (slots + 6) 23 (i + 6) [] [] h2 m2 o2) : lw_V p l e s m below meth c b D cI cZ cJ adC adM qo cells slots 1188 i [] [] h mm o := by
  obtain ⟨r, h2, m2, e1, e2, hR2⟩ := s_known (xs (i + 1)) (xs (i + 2)) (xs (i + 3)) n h mm hn hR
  have hc0 : cells ≤ 1134 ∧ slots ≤ 14355 := ⟨by omega, by omega⟩
  refine L_ald1 (pc := 1188) X (th_da dt9_26 0 rfl) ?_
  refine L_arg (pc := 1189) (j := 1) X hL hi (by decide) (by decide) (th_da dt9_26 1 rfl) (th_da dt9_26 2 rfl) (th_da dt9_26 3 rfl) (th_da dt9_26 4 rfl) (th_da dt9_26 5 rfl) ?_
  refine L_arg (pc := 1195) (j := 2) X hL hi (by decide) (by decide) (th_da dt9_26 6 rfl) (th_da dt9_26 7 rfl) (th_da dt9_26 8 rfl) (th_da dt9_26 9 rfl) (th_da dt9_26 10 rfl) ?_
  refine L_arg (pc := 1201) (j := 3) X hL hi (by decide) (by decide) (th_da dt9_26 11 rfl) (th_da dt9_26 12 rfl) (th_da dt9_26 13 rfl) (th_da dt9_26 14 rfl) (th_da dt9_26 15 rfl) ?_
  refine L_callC (pc := 1207) (st := []) X hc0 [xs (i + 1), xs (i + 2), xs (i + 3)] (th_da dt9_26 16 rfl) (mX3_known l _ _ _ _ _ _ e1) w9cd_X3_known w9ml_139 w9im_X3_known w9se_X3_known w9in_X3 h9_X3_known ⟨Nat.le_of_ble_eq_true rfl, Nat.le_of_ble_eq_true rfl⟩ (Nat.le_of_ble_eq_true rfl) rfl ?_
  refine L_ald2 (pc := 1210) X (th_da dt9_26 17 rfl) ?_
  refine L_arg (pc := 1211) (j := 1) X hL hi (by decide) (by decide) (th_da dt9_26 18 rfl) (th_da dt9_26 19 rfl) (th_da dt9_26 20 rfl) (th_da dt9_26 21 rfl) (th_da dt9_26 22 rfl) ?_
  refine L_arg (pc := 1217) (j := 2) X hL hi (by decide) (by decide) (th_da dt9_26 23 rfl) (th_da dt9_26 24 rfl) (th_da dt9_26 25 rfl) (th_da dt9_26 26 rfl) (th_da dt9_26 27 rfl) ?_
  refine L_arg (pc := 1223) (j := 3) X hL hi (by decide) (by decide) (th_da dt9_26 28 rfl) (th_da dt9_26 29 rfl) (th_da dt9_26 30 rfl) (th_da dt9_26 31 rfl) (th_da dt9_26 32 rfl) ?_
  refine L_callM (pc := 1229) (st := [.int r]) X hc0 [xs (i + 1), xs (i + 2), xs (i + 3)] (th_da dt9_26 33 rfl) (mX4_known l _ _ _ _ _ _ e2) w9cd_X4_known w9ml_142 w9im_X4_known w9se_X4_known w9in_X4 h9_X4_known ⟨Nat.le_of_ble_eq_true rfl, Nat.le_of_ble_eq_true rfl⟩ (Nat.le_of_ble_eq_true rfl) rfl ?_
  refine L_eq (pc := 1232) (tgt := 1820) X (th_da dt9_26 34 rfl) (by decide) ?_
  exact L_wide (Nat.le_add_right _ _) (Nat.le_add_right _ _) (L_next X (kk h2 m2 o hR2))
set_option maxHeartbeats 4000000 in
set_option maxRecDepth 100000 in
/-- booked -/
theorem lc_27 (X : lw_X p s m meth c b L xs D cI cZ cJ adC adM qo sa) (hL : L ≤ 3072) (hi : i + 6 ≤ L) (hn : n < 512) (hR : Rel n h mm) (hcs : cells + 1 ≤ 1134 ∧ slots + 6 ≤ 14355) (kk : ∀ h2 m2 o2, Rel (n + 1) h2 m2 → lw_V p l e s m below meth c b D cI cZ cJ adC adM qo (cells + 1) (slots + 6) 23 (i + 6) [] [] h2 m2 o2) : lw_V p l e s m below meth c b D cI cZ cJ adC adM qo cells slots 1237 i [] [] h mm o := by
  obtain ⟨r, h2, m2, e1, e2, hR2⟩ := s_booked (xs (i + 1)) n h mm hn hR
  have hc0 : cells ≤ 1134 ∧ slots ≤ 14355 := ⟨by omega, by omega⟩
  refine L_ald1 (pc := 1237) X (th_da dt9_27 0 rfl) ?_
  refine L_arg (pc := 1238) (j := 1) X hL hi (by decide) (by decide) (th_da dt9_27 1 rfl) (th_da dt9_27 2 rfl) (th_da dt9_27 3 rfl) (th_da dt9_27 4 rfl) (th_da dt9_27 5 rfl) ?_
  refine L_callC (pc := 1244) (st := []) X hc0 [xs (i + 1)] (th_da dt9_27 6 rfl) (mX3_booked l _ _ _ _ e1) w9cd_X3_booked w9ml_143 w9im_X3_booked w9se_X3_booked w9in_X3 h9_X3_booked ⟨Nat.le_of_ble_eq_true rfl, Nat.le_of_ble_eq_true rfl⟩ (Nat.le_of_ble_eq_true rfl) rfl ?_
  refine L_ald2 (pc := 1247) X (th_da dt9_27 7 rfl) ?_
  refine L_arg (pc := 1248) (j := 1) X hL hi (by decide) (by decide) (th_da dt9_27 8 rfl) (th_da dt9_27 9 rfl) (th_da dt9_27 10 rfl) (th_da dt9_27 11 rfl) (th_da dt9_27 12 rfl) ?_
  refine L_callM (pc := 1254) (st := [.int r]) X hc0 [xs (i + 1)] (th_da dt9_27 13 rfl) (mX4_booked l _ _ _ _ e2) w9cd_X4_booked w9ml_146 w9im_X4_booked w9se_X4_booked w9in_X4 h9_X4_booked ⟨Nat.le_of_ble_eq_true rfl, Nat.le_of_ble_eq_true rfl⟩ (Nat.le_of_ble_eq_true rfl) rfl ?_
  refine L_eq (pc := 1257) (tgt := 1820) X (th_da dt9_27 14 rfl) (by decide) ?_
  exact L_wide (Nat.le_add_right _ _) (Nat.le_add_right _ _) (L_next X (kk h2 m2 o hR2))
set_option maxHeartbeats 4000000 in
set_option maxRecDepth 100000 in
/-- over -/
theorem lc_28 (X : lw_X p s m meth c b L xs D cI cZ cJ adC adM qo sa) (hL : L ≤ 3072) (hi : i + 6 ≤ L) (hn : n < 512) (hR : Rel n h mm) (hcs : cells + 1 ≤ 1134 ∧ slots + 6 ≤ 14355) (kk : ∀ h2 m2 o2, Rel (n + 1) h2 m2 → lw_V p l e s m below meth c b D cI cZ cJ adC adM qo (cells + 1) (slots + 6) 23 (i + 6) [] [] h2 m2 o2) : lw_V p l e s m below meth c b D cI cZ cJ adC adM qo cells slots 1262 i [] [] h mm o := by
  obtain ⟨r, h2, m2, e1, e2, hR2⟩ := s_over  n h mm hn hR
  have hc0 : cells ≤ 1134 ∧ slots ≤ 14355 := ⟨by omega, by omega⟩
  refine L_ald1 (pc := 1262) X (th_da dt9_28 0 rfl) ?_
  refine L_callC (pc := 1263) (st := []) X hc0 [] (th_da dt9_28 1 rfl) (mX3_over l _ _ _ e1) w9cd_X3_over w9ml_147 w9im_X3_over w9se_X3_over w9in_X3 h9_X3_over ⟨Nat.le_of_ble_eq_true rfl, Nat.le_of_ble_eq_true rfl⟩ (Nat.le_of_ble_eq_true rfl) rfl ?_
  refine L_ald2 (pc := 1266) X (th_da dt9_28 2 rfl) ?_
  refine L_callM (pc := 1267) (st := [.int r]) X hc0 [] (th_da dt9_28 3 rfl) (mX4_over l _ _ _ e2) w9cd_X4_over w9ml_150 w9im_X4_over w9se_X4_over w9in_X4 h9_X4_over ⟨Nat.le_of_ble_eq_true rfl, Nat.le_of_ble_eq_true rfl⟩ (Nat.le_of_ble_eq_true rfl) rfl ?_
  refine L_eq (pc := 1270) (tgt := 1820) X (th_da dt9_28 4 rfl) (by decide) ?_
  exact L_wide (Nat.le_add_right _ _) (Nat.le_add_right _ _) (L_next X (kk h2 m2 o hR2))
set_option maxHeartbeats 4000000 in
set_option maxRecDepth 100000 in
/-- settling -/
theorem lc_29 (X : lw_X p s m meth c b L xs D cI cZ cJ adC adM qo sa) (hL : L ≤ 3072) (hi : i + 6 ≤ L) (hn : n < 512) (hR : Rel n h mm) (hcs : cells + 1 ≤ 1134 ∧ slots + 6 ≤ 14355) (kk : ∀ h2 m2 o2, Rel (n + 1) h2 m2 → lw_V p l e s m below meth c b D cI cZ cJ adC adM qo (cells + 1) (slots + 6) 23 (i + 6) [] [] h2 m2 o2) : lw_V p l e s m below meth c b D cI cZ cJ adC adM qo cells slots 1275 i [] [] h mm o := by
  obtain ⟨r, h2, m2, e1, e2, hR2⟩ := s_settling (xs (i + 1)) n h mm hn hR
  have hc0 : cells ≤ 1134 ∧ slots ≤ 14355 := ⟨by omega, by omega⟩
  refine L_ald1 (pc := 1275) X (th_da dt9_29 0 rfl) ?_
  refine L_arg (pc := 1276) (j := 1) X hL hi (by decide) (by decide) (th_da dt9_29 1 rfl) (th_da dt9_29 2 rfl) (th_da dt9_29 3 rfl) (th_da dt9_29 4 rfl) (th_da dt9_29 5 rfl) ?_
  refine L_callC (pc := 1282) (st := []) X hc0 [xs (i + 1)] (th_da dt9_29 6 rfl) (mX3_settling l _ _ _ _ e1) w9cd_X3_settling w9ml_151 w9im_X3_settling w9se_X3_settling w9in_X3 h9_X3_settling ⟨Nat.le_of_ble_eq_true rfl, Nat.le_of_ble_eq_true rfl⟩ (Nat.le_of_ble_eq_true rfl) rfl ?_
  refine L_ald2 (pc := 1285) X (th_da dt9_29 7 rfl) ?_
  refine L_arg (pc := 1286) (j := 1) X hL hi (by decide) (by decide) (th_da dt9_29 8 rfl) (th_da dt9_29 9 rfl) (th_da dt9_29 10 rfl) (th_da dt9_29 11 rfl) (th_da dt9_29 12 rfl) ?_
  refine L_callM (pc := 1292) (st := [.int r]) X hc0 [xs (i + 1)] (th_da dt9_29 13 rfl) (mX4_settling l _ _ _ _ e2) w9cd_X4_settling w9ml_154 w9im_X4_settling w9se_X4_settling w9in_X4 h9_X4_settling ⟨Nat.le_of_ble_eq_true rfl, Nat.le_of_ble_eq_true rfl⟩ (Nat.le_of_ble_eq_true rfl) rfl ?_
  refine L_eq (pc := 1295) (tgt := 1820) X (th_da dt9_29 14 rfl) (by decide) ?_
  exact L_wide (Nat.le_add_right _ _) (Nat.le_add_right _ _) (L_next X (kk h2 m2 o hR2))
end
