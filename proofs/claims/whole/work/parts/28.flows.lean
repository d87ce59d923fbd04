abbrev g81 : mG := (⟨"PlaceNets$Flows", "build", "(LPlaceNets$Net;)V"⟩, prog_3_method_2_code, 3, none, 5, 2, 4, false)
theorem G81 : mGm[81]? = some g81 := rfl
def tb81 : List (Nat × Instr × Nat) := [(0, .aload_n 0, 1), (1, .iconst (0), 1), (2, .putfield 39, 3), (5, .aload_n 0, 1), (6, .aload_n 0, 1), (7, .getfield 35, 3), (10, .ifCond .eq (10), 3), (13, .aload_n 1, 1), (14, .getfield 42, 3), (17, .goto (7), 3), (20, .aload_n 1, 1), (21, .getfield 48, 3), (24, .putfield 51, 3), (27, .aload_n 0, 1), (28, .aload_n 0, 1), (29, .getfield 35, 3), (32, .ifCond .eq (10), 3), (35, .aload_n 1, 1), (36, .getfield 48, 3), (39, .goto (7), 3), (42, .aload_n 1, 1), (43, .getfield 42, 3), (46, .putfield 54, 3), (49, .aload_n 0, 1), (50, .aload_n 0, 1), (51, .getfield 51, 3), (54, .putfield 57, 3), (57, .aload_n 0, 1), (58, .getfield 11, 3), (61, .iconst (0), 1), (62, .invokestatic 60, 3), (65, .iconst (0), 1), (66, .istore_n 2, 1), (67, .iload_n 2, 1), (68, .aload_n 0, 1), (69, .getfield 51, 3), (72, .if_icmp .ge (30), 3), (75, .aload_n 0, 1), (76, .getfield 11, 3), (79, .iload_n 2, 1), (80, .bipush (10), 2), (82, .imul, 1), (83, .iload_n 2, 1), (84, .iadd, 1), (85, .iconst (1), 1), (86, .iastore, 1), (87, .aload_n 0, 1), (88, .getfield 21, 3), (91, .iload_n 2, 1), (92, .iconst (1), 1), (93, .iload_n 2, 1), (94, .ishl, 1), (95, .iastore, 1), (96, .iinc 2 (1), 3), (99, .goto (-32), 3), (102, .iconst (0), 1), (103, .istore_n 2, 1), (104, .iload_n 2, 1), (105, .aload_n 0, 1), (106, .getfield 54, 3), (109, .if_icmp .ge (22), 3), (112, .aload_n 0, 1), (113, .getfield 39, 3), (116, .ifCond .ne (15), 3), (119, .aload_n 0, 1), (120, .aload_n 1, 1), (121, .iload_n 2, 1), (122, .invokevirtual 66, 3), (125, .iinc 2 (1), 3), (128, .goto (-24), 3), (131, .aload_n 0, 1), (132, .getfield 39, 3), (135, .ifCond .ne (7), 3), (138, .aload_n 0, 1), (139, .invokevirtual 70, 3), (142, .return_, 1)]
set_option maxRecDepth 20000 in
theorem D81 : tb81.all (dOk prog_3_method_2_code) = true := by decide +kernel
abbrev g82 : mG := (⟨"PlaceNets$Flows", "settle", "(LPlaceNets$Net;I)V"⟩, prog_3_method_3_code, 8, none, 5, 3, 4, false)
theorem G82 : mGm[82]? = some g82 := rfl
def tb82 : List (Nat × Instr × Nat) := [(0, .iconst (0), 1), (1, .istore_n 3, 1), (2, .iconst (0), 1), (3, .istore 4, 2), (5, .iconst (0), 1), (6, .istore 5, 2), (8, .iload 5, 2), (10, .aload_n 0, 1), (11, .getfield 57, 3), (14, .if_icmp .ge (67), 3), (17, .aload_n 0, 1), (18, .getfield 18, 3), (21, .iload 5, 2), (23, .aload_n 0, 1), (24, .aload_n 1, 1), (25, .aload_n 0, 1), (26, .getfield 11, 3), (29, .iload 5, 2), (31, .iload_n 2, 1), (32, .invokevirtual 73, 3), (35, .l2i, 1), (36, .iastore, 1), (37, .iload_n 3, 1), (38, .aload_n 0, 1), (39, .getfield 18, 3), (42, .iload 5, 2), (44, .iaload, 1), (45, .ifCond .le (7), 3), (48, .iconst (1), 1), (49, .goto (4), 3), (52, .iconst (0), 1), (53, .iadd, 1), (54, .istore_n 3, 1), (55, .iload 4, 2), (57, .aload_n 0, 1), (58, .getfield 18, 3), (61, .iload 5, 2), (63, .iaload, 1), (64, .ifCond .ge (7), 3), (67, .iconst (1), 1), (68, .goto (4), 3), (71, .iconst (0), 1), (72, .iadd, 1), (73, .istore 4, 2), (75, .iinc 5 (1), 3), (78, .goto (-70), 3), (81, .aload_n 0, 1), (82, .getfield 57, 3), (85, .iload_n 3, 1), (86, .isub, 1), (87, .iload 4, 2), (89, .isub, 1), (90, .iload_n 3, 1), (91, .iload 4, 2), (93, .imul, 1), (94, .iadd, 1), (95, .sipush (300), 3), (98, .if_icmp .le (9), 3), (101, .aload_n 0, 1), (102, .iconst (1), 1), (103, .putfield 39, 3), (106, .return_, 1), (107, .aload_n 0, 1), (108, .invokevirtual 77, 3), (111, .istore 5, 2), (113, .iconst (0), 1), (114, .istore 6, 2), (116, .iload 6, 2), (118, .aload_n 0, 1), (119, .getfield 57, 3), (122, .if_icmp .ge (85), 3), (125, .aload_n 0, 1), (126, .getfield 39, 3), (129, .ifCond .ne (78), 3), (132, .iconst (0), 1), (133, .istore 7, 2), (135, .iload 7, 2), (137, .aload_n 0, 1), (138, .getfield 57, 3), (141, .if_icmp .ge (60), 3), (144, .aload_n 0, 1), (145, .getfield 39, 3), (148, .ifCond .ne (53), 3), (151, .aload_n 0, 1), (152, .getfield 18, 3), (155, .iload 6, 2), (157, .iaload, 1), (158, .ifCond .le (37), 3), (161, .aload_n 0, 1), (162, .getfield 18, 3), (165, .iload 7, 2), (167, .iaload, 1), (168, .ifCond .ge (27), 3), (171, .aload_n 0, 1), (172, .iload 6, 2), (174, .iload 7, 2), (176, .iload 5, 2), (178, .invokevirtual 81, 3), (181, .aload_n 0, 1), (182, .aload_n 0, 1), (183, .aload_n 1, 1), (184, .iload 5, 2), (186, .invokevirtual 85, 3), (189, .putfield 39, 3), (192, .iinc 5 (1), 3), (195, .iinc 7 (1), 3), (198, .goto (-63), 3), (201, .iinc 6 (1), 3), (204, .goto (-88), 3), (207, .aload_n 0, 1), (208, .getfield 11, 3), (211, .astore 6, 2), (213, .aload_n 0, 1), (214, .aload_n 0, 1), (215, .getfield 15, 3), (218, .putfield 11, 3), (221, .aload_n 0, 1), (222, .aload 6, 2), (224, .putfield 15, 3), (227, .aload_n 0, 1), (228, .iload 5, 2), (230, .putfield 57, 3), (233, .aload_n 0, 1), (234, .invokevirtual 89, 3), (237, .return_, 1)]
set_option maxRecDepth 20000 in
theorem D82 : tb82.all (dOk prog_3_method_3_code) = true := by decide +kernel
abbrev g83 : mG := (⟨"PlaceNets$Flows", "changeOf", "(LPlaceNets$Net;[III)J"⟩, prog_3_method_5_code, 10, (some .long), 5, 5, 4, false)
theorem G83 : mGm[83]? = some g83 := rfl
def tb83 : List (Nat × Instr × Nat) := [(0, .lconst 0, 1), (1, .lstore 5, 2), (3, .iconst (0), 1), (4, .istore 7, 2), (6, .iload 7, 2), (8, .aload_n 0, 1), (9, .getfield 51, 3), (12, .if_icmp .ge (56), 3), (15, .aload_n 2, 1), (16, .iload_n 3, 1), (17, .bipush (10), 2), (19, .imul, 1), (20, .iload 7, 2), (22, .iadd, 1), (23, .iaload, 1), (24, .i2l, 1), (25, .lstore 8, 2), (27, .lload 5, 2), (29, .lload 8, 2), (31, .aload_n 0, 1), (32, .getfield 35, 3), (35, .ifCond .eq (14), 3), (38, .aload_n 1, 1), (39, .iload 4, 2), (41, .iload 7, 2), (43, .invokevirtual 98, 3), (46, .goto (11), 3), (49, .aload_n 1, 1), (50, .iload 7, 2), (52, .iload 4, 2), (54, .invokevirtual 98, 3), (57, .i2l, 1), (58, .lmul, 1), (59, .ladd, 1), (60, .lstore 5, 2), (62, .iinc 7 (1), 3), (65, .goto (-59), 3), (68, .lload 5, 2), (70, .lreturn, 1)]
set_option maxRecDepth 20000 in
theorem D83 : tb83.all (dOk prog_3_method_5_code) = true := by decide +kernel
abbrev g84 : mG := (⟨"PlaceNets$Flows", "copyUnchanged", "()I"⟩, prog_3_method_4_code, 3, (some .int), 5, 1, 4, false)
theorem G84 : mGm[84]? = some g84 := rfl
def tb84 : List (Nat × Instr × Nat) := [(0, .iconst (0), 1), (1, .istore_n 1, 1), (2, .iconst (0), 1), (3, .istore_n 2, 1), (4, .iload_n 2, 1), (5, .aload_n 0, 1), (6, .getfield 57, 3), (9, .if_icmp .ge (42), 3), (12, .aload_n 0, 1), (13, .getfield 18, 3), (16, .iload_n 2, 1), (17, .iaload, 1), (18, .ifCond .ne (27), 3), (21, .aload_n 0, 1), (22, .getfield 11, 3), (25, .iload_n 2, 1), (26, .bipush (10), 2), (28, .imul, 1), (29, .aload_n 0, 1), (30, .getfield 15, 3), (33, .iload_n 1, 1), (34, .bipush (10), 2), (36, .imul, 1), (37, .bipush (10), 2), (39, .invokestatic 92, 3), (42, .iinc 1 (1), 3), (45, .iinc 2 (1), 3), (48, .goto (-44), 3), (51, .iload_n 1, 1), (52, .ireturn, 1)]
set_option maxRecDepth 20000 in
theorem D84 : tb84.all (dOk prog_3_method_4_code) = true := by decide +kernel
abbrev g85 : mG := (⟨"PlaceNets$Flows", "join", "(III)V"⟩, prog_3_method_6_code, 9, none, 5, 4, 4, false)
theorem G85 : mGm[85]? = some g85 := rfl
def tb85 : List (Nat × Instr × Nat) := [(0, .lconst 0, 1), (1, .lstore 4, 2), (3, .iconst (0), 1), (4, .istore 6, 2), (6, .iload 6, 2), (8, .aload_n 0, 1), (9, .getfield 51, 3), (12, .if_icmp .ge (74), 3), (15, .aload_n 0, 1), (16, .getfield 31, 3), (19, .iload 6, 2), (21, .aload_n 0, 1), (22, .getfield 11, 3), (25, .iload_n 1, 1), (26, .bipush (10), 2), (28, .imul, 1), (29, .iload 6, 2), (31, .iadd, 1), (32, .iaload, 1), (33, .i2l, 1), (34, .aload_n 0, 1), (35, .getfield 18, 3), (38, .iload_n 2, 1), (39, .iaload, 1), (40, .ineg, 1), (41, .i2l, 1), (42, .lmul, 1), (43, .aload_n 0, 1), (44, .getfield 11, 3), (47, .iload_n 2, 1), (48, .bipush (10), 2), (50, .imul, 1), (51, .iload 6, 2), (53, .iadd, 1), (54, .iaload, 1), (55, .i2l, 1), (56, .aload_n 0, 1), (57, .getfield 18, 3), (60, .iload_n 1, 1), (61, .iaload, 1), (62, .i2l, 1), (63, .lmul, 1), (64, .ladd, 1), (65, .lastore, 1), (66, .lload 4, 2), (68, .aload_n 0, 1), (69, .getfield 31, 3), (72, .iload 6, 2), (74, .laload, 1), (75, .invokestatic 102, 3), (78, .lstore 4, 2), (80, .iinc 6 (1), 3), (83, .goto (-77), 3), (86, .iconst (0), 1), (87, .istore 6, 2), (89, .iload 6, 2), (91, .aload_n 0, 1), (92, .getfield 51, 3), (95, .if_icmp .ge (59), 3), (98, .lload 4, 2), (100, .lconst 1, 1), (101, .lcmp, 1), (102, .ifCond .le (16), 3), (105, .aload_n 0, 1), (106, .getfield 31, 3), (109, .iload 6, 2), (111, .laload, 1), (112, .lload 4, 2), (114, .ldiv, 1), (115, .goto (10), 3), (118, .aload_n 0, 1), (119, .getfield 31, 3), (122, .iload 6, 2), (124, .laload, 1), (125, .lstore 7, 2), (127, .aload_n 0, 1), (128, .getfield 15, 3), (131, .iload_n 3, 1), (132, .bipush (10), 2), (134, .imul, 1), (135, .iload 6, 2), (137, .iadd, 1), (138, .lload 7, 2), (140, .ldc2_w 106, 3), (143, .invokestatic 108, 3), (146, .l2i, 1), (147, .iastore, 1), (148, .iinc 6 (1), 3), (151, .goto (-62), 3), (154, .return_, 1)]
set_option maxRecDepth 20000 in
theorem D85 : tb85.all (dOk prog_3_method_6_code) = true := by decide +kernel
abbrev g86 : mG := (⟨"PlaceNets$Flows", "commonDivisor", "(JJ)J"⟩, prog_3_method_7_code, 11, (some .long), 5, 2, 99, false)
theorem G86 : mGm[86]? = some g86 := rfl
def tb86 : List (Nat × Instr × Nat) := [(0, .lload_n 0, 1), (1, .lstore 4, 2), (3, .lload_n 2, 1), (4, .lstore 6, 2), (6, .iconst (0), 1), (7, .istore 8, 2), (9, .iload 8, 2), (11, .bipush (100), 2), (13, .if_icmp .ge (31), 3), (16, .lload 6, 2), (18, .lconst 0, 1), (19, .lcmp, 1), (20, .ifCond .eq (24), 3), (23, .lload 4, 2), (25, .lload 6, 2), (27, .lrem, 1), (28, .lstore 9, 2), (30, .lload 6, 2), (32, .lstore 4, 2), (34, .lload 9, 2), (36, .lstore 6, 2), (38, .iinc 8 (1), 3), (41, .goto (-32), 3), (44, .lload 4, 2), (46, .lreturn, 1)]
set_option maxRecDepth 20000 in
theorem D86 : tb86.all (dOk prog_3_method_7_code) = true := by decide +kernel
abbrev g87 : mG := (⟨"PlaceNets$Flows", "isTooGreat", "(LPlaceNets$Net;I)Z"⟩, prog_3_method_8_code, 4, (some .boolean), 5, 3, 4, false)
theorem G87 : mGm[87]? = some g87 := rfl
def tb87 : List (Nat × Instr × Nat) := [(0, .iconst (0), 1), (1, .istore_n 3, 1), (2, .iload_n 3, 1), (3, .aload_n 0, 1), (4, .getfield 51, 3), (7, .if_icmp .ge (27), 3), (10, .aload_n 0, 1), (11, .getfield 15, 3), (14, .iload_n 2, 1), (15, .bipush (10), 2), (17, .imul, 1), (18, .iload_n 3, 1), (19, .iadd, 1), (20, .iaload, 1), (21, .ldc 113, 2), (23, .if_icmp .le (5), 3), (26, .iconst (1), 1), (27, .ireturn, 1), (28, .iinc 3 (1), 3), (31, .goto (-29), 3), (34, .iconst (0), 1), (35, .istore_n 3, 1), (36, .iload_n 3, 1), (37, .aload_n 0, 1), (38, .getfield 54, 3), (41, .if_icmp .ge (32), 3), (44, .aload_n 0, 1), (45, .aload_n 1, 1), (46, .aload_n 0, 1), (47, .getfield 15, 3), (50, .iload_n 2, 1), (51, .iload_n 3, 1), (52, .invokevirtual 73, 3), (55, .invokestatic 114, 3), (58, .ldc2_w 118, 3), (61, .lcmp, 1), (62, .ifCond .le (5), 3), (65, .iconst (1), 1), (66, .ireturn, 1), (67, .iinc 3 (1), 3), (70, .goto (-34), 3), (73, .iconst (0), 1), (74, .ireturn, 1)]
set_option maxRecDepth 20000 in
theorem D87 : tb87.all (dOk prog_3_method_8_code) = true := by decide +kernel
abbrev g88 : mG := (⟨"PlaceNets$Flows", "dropRows", "()V"⟩, prog_3_method_9_code, 3, none, 5, 1, 4, false)
theorem G88 : mGm[88]? = some g88 := rfl
def tb88 : List (Nat × Instr × Nat) := [(0, .iconst (0), 1), (1, .istore_n 1, 1), (2, .iload_n 1, 1), (3, .aload_n 0, 1), (4, .getfield 57, 3), (7, .if_icmp .ge (20), 3), (10, .aload_n 0, 1), (11, .getfield 21, 3), (14, .iload_n 1, 1), (15, .aload_n 0, 1), (16, .iload_n 1, 1), (17, .invokevirtual 120, 3), (20, .iastore, 1), (21, .iinc 1 (1), 3), (24, .goto (-22), 3), (27, .iconst (0), 1), (28, .istore_n 1, 1), (29, .iload_n 1, 1), (30, .aload_n 0, 1), (31, .getfield 57, 3), (34, .if_icmp .ge (20), 3), (37, .aload_n 0, 1), (38, .getfield 24, 3), (41, .iload_n 1, 1), (42, .aload_n 0, 1), (43, .iload_n 1, 1), (44, .invokevirtual 124, 3), (47, .bastore, 1), (48, .iinc 1 (1), 3), (51, .goto (-22), 3), (54, .iconst (0), 1), (55, .istore_n 1, 1), (56, .iconst (0), 1), (57, .istore_n 2, 1), (58, .iload_n 2, 1), (59, .aload_n 0, 1), (60, .getfield 57, 3), (63, .if_icmp .ge (54), 3), (66, .aload_n 0, 1), (67, .getfield 24, 3), (70, .iload_n 2, 1), (71, .baload, 1), (72, .ifCond .ne (39), 3), (75, .aload_n 0, 1), (76, .getfield 11, 3), (79, .iload_n 2, 1), (80, .bipush (10), 2), (82, .imul, 1), (83, .aload_n 0, 1), (84, .getfield 11, 3), (87, .iload_n 1, 1), (88, .bipush (10), 2), (90, .imul, 1), (91, .bipush (10), 2), (93, .invokestatic 92, 3), (96, .aload_n 0, 1), (97, .getfield 21, 3), (100, .iload_n 1, 1), (101, .aload_n 0, 1), (102, .getfield 21, 3), (105, .iload_n 2, 1), (106, .iaload, 1), (107, .iastore, 1), (108, .iinc 1 (1), 3), (111, .iinc 2 (1), 3), (114, .goto (-56), 3), (117, .aload_n 0, 1), (118, .iload_n 1, 1), (119, .putfield 57, 3), (122, .return_, 1)]
set_option maxRecDepth 20000 in
theorem D88 : tb88.all (dOk prog_3_method_9_code) = true := by decide +kernel
abbrev g89 : mG := (⟨"PlaceNets$Flows", "usedBy", "(I)I"⟩, prog_3_method_10_code, 4, (some .int), 5, 2, 4, false)
theorem G89 : mGm[89]? = some g89 := rfl
def tb89 : List (Nat × Instr × Nat) := [(0, .iconst (0), 1), (1, .istore_n 2, 1), (2, .iconst (0), 1), (3, .istore_n 3, 1), (4, .iload_n 3, 1), (5, .aload_n 0, 1), (6, .getfield 51, 3), (9, .if_icmp .ge (29), 3), (12, .aload_n 0, 1), (13, .getfield 11, 3), (16, .iload_n 1, 1), (17, .bipush (10), 2), (19, .imul, 1), (20, .iload_n 3, 1), (21, .iadd, 1), (22, .iaload, 1), (23, .ifCond .eq (9), 3), (26, .iload_n 2, 1), (27, .iconst (1), 1), (28, .iload_n 3, 1), (29, .ishl, 1), (30, .ior, 1), (31, .istore_n 2, 1), (32, .iinc 3 (1), 3), (35, .goto (-31), 3), (38, .iload_n 2, 1), (39, .ireturn, 1)]
set_option maxRecDepth 20000 in
theorem D89 : tb89.all (dOk prog_3_method_10_code) = true := by decide +kernel
abbrev g90 : mG := (⟨"PlaceNets$Flows", "isBeaten", "(I)Z"⟩, prog_3_method_11_code, 4, (some .boolean), 5, 2, 4, false)
theorem G90 : mGm[90]? = some g90 := rfl
def tb90 : List (Nat × Instr × Nat) := [(0, .iconst (0), 1), (1, .istore_n 2, 1), (2, .iload_n 2, 1), (3, .aload_n 0, 1), (4, .getfield 57, 3), (7, .if_icmp .ge (59), 3), (10, .aload_n 0, 1), (11, .getfield 21, 3), (14, .iload_n 2, 1), (15, .iaload, 1), (16, .aload_n 0, 1), (17, .getfield 21, 3), (20, .iload_n 1, 1), (21, .iaload, 1), (22, .iconst (-1), 1), (23, .ixor, 1), (24, .iand, 1), (25, .ifCond .ne (7), 3), (28, .iconst (1), 1), (29, .goto (4), 3), (32, .iconst (0), 1), (33, .istore_n 3, 1), (34, .iload_n 3, 1), (35, .ifCond .eq (25), 3), (38, .aload_n 0, 1), (39, .getfield 21, 3), (42, .iload_n 2, 1), (43, .iaload, 1), (44, .aload_n 0, 1), (45, .getfield 21, 3), (48, .iload_n 1, 1), (49, .iaload, 1), (50, .if_icmp .ne (8), 3), (53, .iload_n 2, 1), (54, .iload_n 1, 1), (55, .if_icmp .ge (5), 3), (58, .iconst (1), 1), (59, .ireturn, 1), (60, .iinc 2 (1), 3), (63, .goto (-61), 3), (66, .iconst (0), 1), (67, .ireturn, 1)]
set_option maxRecDepth 20000 in
theorem D90 : tb90.all (dOk prog_3_method_11_code) = true := by decide +kernel
abbrev g91 : mG := (⟨"PlaceNets$Flows", "sortRows", "()V"⟩, prog_3_method_12_code, 3, none, 5, 1, 4, false)
theorem G91 : mGm[91]? = some g91 := rfl
def tb91 : List (Nat × Instr × Nat) := [(0, .iconst (0), 1), (1, .istore_n 1, 1), (2, .iload_n 1, 1), (3, .aload_n 0, 1), (4, .getfield 57, 3), (7, .if_icmp .ge (64), 3), (10, .iload_n 1, 1), (11, .istore_n 2, 1), (12, .iload_n 2, 1), (13, .ifCond .le (45), 3), (16, .aload_n 0, 1), (17, .getfield 21, 3), (20, .aload_n 0, 1), (21, .getfield 28, 3), (24, .iload_n 2, 1), (25, .iconst (1), 1), (26, .isub, 1), (27, .iaload, 1), (28, .iaload, 1), (29, .aload_n 0, 1), (30, .getfield 21, 3), (33, .iload_n 1, 1), (34, .iaload, 1), (35, .if_icmp .le (23), 3), (38, .aload_n 0, 1), (39, .getfield 28, 3), (42, .iload_n 2, 1), (43, .aload_n 0, 1), (44, .getfield 28, 3), (47, .iload_n 2, 1), (48, .iconst (1), 1), (49, .isub, 1), (50, .iaload, 1), (51, .iastore, 1), (52, .iinc 2 (-1), 3), (55, .goto (-43), 3), (58, .aload_n 0, 1), (59, .getfield 28, 3), (62, .iload_n 2, 1), (63, .iload_n 1, 1), (64, .iastore, 1), (65, .iinc 1 (1), 3), (68, .goto (-66), 3), (71, .return_, 1)]
set_option maxRecDepth 20000 in
theorem D91 : tb91.all (dOk prog_3_method_12_code) = true := by decide +kernel
abbrev g93 : mG := (⟨"PlaceNets$Flows", "tell", "(II)I"⟩, prog_3_method_13_code, 3, (some .int), 5, 3, 4, false)
theorem G93 : mGm[93]? = some g93 := rfl
def tb93 : List (Nat × Instr × Nat) := [(0, .iload_n 1, 1), (1, .ifCond .lt (23), 3), (4, .iload_n 1, 1), (5, .aload_n 0, 1), (6, .getfield 57, 3), (9, .if_icmp .ge (15), 3), (12, .iload_n 2, 1), (13, .ifCond .lt (11), 3), (16, .iload_n 2, 1), (17, .aload_n 0, 1), (18, .getfield 51, 3), (21, .if_icmp .lt (5), 3), (24, .iconst (-1), 1), (25, .ireturn, 1), (26, .aload_n 0, 1), (27, .getfield 11, 3), (30, .aload_n 0, 1), (31, .getfield 28, 3), (34, .iload_n 1, 1), (35, .iaload, 1), (36, .bipush (10), 2), (38, .imul, 1), (39, .iload_n 2, 1), (40, .iadd, 1), (41, .iaload, 1), (42, .ireturn, 1)]
set_option maxRecDepth 20000 in
theorem D93 : tb93.all (dOk prog_3_method_13_code) = true := by decide +kernel
abbrev g95 : mG := (⟨"PlaceNets$Flows", "weigh", "(I[I)I"⟩, prog_3_method_14_code, 6, (some .int), 5, 3, 4, false)
theorem G95 : mGm[95]? = some g95 := rfl
def tb95 : List (Nat × Instr × Nat) := [(0, .iload_n 1, 1), (1, .ifCond .lt (11), 3), (4, .iload_n 1, 1), (5, .aload_n 0, 1), (6, .getfield 57, 3), (9, .if_icmp .lt (5), 3), (12, .iconst (-1), 1), (13, .ireturn, 1), (14, .lconst 0, 1), (15, .lstore_n 3, 1), (16, .iconst (0), 1), (17, .istore 5, 2), (19, .iload 5, 2), (21, .aload_n 0, 1), (22, .getfield 51, 3), (25, .if_icmp .ge (36), 3), (28, .lload_n 3, 1), (29, .aload_n 0, 1), (30, .getfield 11, 3), (33, .aload_n 0, 1), (34, .getfield 28, 3), (37, .iload_n 1, 1), (38, .iaload, 1), (39, .bipush (10), 2), (41, .imul, 1), (42, .iload 5, 2), (44, .iadd, 1), (45, .iaload, 1), (46, .i2l, 1), (47, .aload_n 2, 1), (48, .iload 5, 2), (50, .iaload, 1), (51, .i2l, 1), (52, .lmul, 1), (53, .ladd, 1), (54, .lstore_n 3, 1), (55, .iinc 5 (1), 3), (58, .goto (-39), 3), (61, .lload_n 3, 1), (62, .ldc2_w 128, 3), (65, .invokestatic 108, 3), (68, .l2i, 1), (69, .ireturn, 1)]
set_option maxRecDepth 20000 in
theorem D95 : tb95.all (dOk prog_3_method_14_code) = true := by decide +kernel
-- PlaceNets$Flows.build.(LPlaceNets$Net;)V, from 0
set_option maxRecDepth 20000 in
theorem bk81_0 {d b : Nat} {Q : Option Value → mMem → Prop} {m : mMem} {x0 : Nat} {x1 : Nat} {x2 : Option Value} (hT : mWT m) (hOx0 : m.1 x0 = some (.inr 4) ∧ x0 ≠ 0) (hOx1 : m.1 x1 = some (.inr 2) ∧ x1 ≠ 0)
    (h : ∀ (m_1 : mMem), m_1 = (mSetF m x0 2 (.int 0)) → ((((iF m_1 x0 3) = 0) → (∀ (m_3 : mMem), m_3 = (mSetF m_1 x0 11 (.int (iF m_1 x1 1))) → ((((iF m_3 x0 3) = 0) → (∀ (m_5 : mMem), m_5 = (mSetF m_3 x0 12 (.int (iF m_3 x1 0))) → ∀ (m_7 : mMem), m_7 = (mSetF m_5 x0 1 (.int (iF m_5 x0 11))) → ∃ (r_9 l_10 : Nat), (m_7.2.1 x0 4 = .ref r_9) ∧ ((m_7.1 r_9 = some (.inl (.int, l_10)) ∧ r_9 ≠ 0) ∧ (mEv d 11 [.ref r_9, .int 0] m_7 (fun r m' => mEs d 81 b g81 (65, [some (.ref x0), some (.ref x1), x2], r.toList ++ [], m') Q))))) ∧ (¬ ((iF m_3 x0 3) = 0) → (∀ (m_12 : mMem), m_12 = (mSetF m_3 x0 12 (.int (iF m_3 x1 1))) → ∀ (m_14 : mMem), m_14 = (mSetF m_12 x0 1 (.int (iF m_12 x0 11))) → ∃ (r_16 l_17 : Nat), (m_14.2.1 x0 4 = .ref r_16) ∧ ((m_14.1 r_16 = some (.inl (.int, l_17)) ∧ r_16 ≠ 0) ∧ (mEv d 11 [.ref r_16, .int 0] m_14 (fun r m' => mEs d 81 b g81 (65, [some (.ref x0), some (.ref x1), x2], r.toList ++ [], m') Q)))))))) ∧ (¬ ((iF m_1 x0 3) = 0) → (∀ (m_19 : mMem), m_19 = (mSetF m_1 x0 11 (.int (iF m_1 x1 0))) → ((((iF m_19 x0 3) = 0) → (∀ (m_21 : mMem), m_21 = (mSetF m_19 x0 12 (.int (iF m_19 x1 0))) → ∀ (m_23 : mMem), m_23 = (mSetF m_21 x0 1 (.int (iF m_21 x0 11))) → ∃ (r_25 l_26 : Nat), (m_23.2.1 x0 4 = .ref r_25) ∧ ((m_23.1 r_25 = some (.inl (.int, l_26)) ∧ r_25 ≠ 0) ∧ (mEv d 11 [.ref r_25, .int 0] m_23 (fun r m' => mEs d 81 b g81 (65, [some (.ref x0), some (.ref x1), x2], r.toList ++ [], m') Q))))) ∧ (¬ ((iF m_19 x0 3) = 0) → (∀ (m_28 : mMem), m_28 = (mSetF m_19 x0 12 (.int (iF m_19 x1 1))) → ∀ (m_30 : mMem), m_30 = (mSetF m_28 x0 1 (.int (iF m_28 x0 11))) → ∃ (r_32 l_33 : Nat), (m_30.2.1 x0 4 = .ref r_32) ∧ ((m_30.1 r_32 = some (.inl (.int, l_33)) ∧ r_32 ≠ 0) ∧ (mEv d 11 [.ref r_32, .int 0] m_30 (fun r m' => mEs d 81 b g81 (65, [some (.ref x0), some (.ref x1), x2], r.toList ++ [], m') Q)))))))))) :
    mEs d 81 b g81 (0, [some (.ref x0), some (.ref x1), x2], [], m) Q := by
  refine e_aload_n (pc' := 1) (dAt D81 0 rfl) rfl rfl ?_
  refine e_iconst (pc' := 2) (v := 0) (dAt D81 1 rfl) rfl (by decide) ?_
  replace h := h _ rfl
  refine e_putfield (pc' := 5) (dAt D81 2 rfl) rfl rfl hOx0 rfl rfl (fun e => by cases e) ?_
  refine wtF hT hOx0 (by decide) (fun hT_2 => ?_)
  refine e_aload_n (pc' := 6) (dAt D81 3 rfl) rfl rfl ?_
  refine e_aload_n (pc' := 7) (dAt D81 4 rfl) rfl rfl ?_
  refine e_getfield (pc' := 10) (dAt D81 5 rfl) rfl rfl hOx0 (hT_2.int hOx0 3 (by decide)) ?_
  refine e_if_eq (t := 20) (pc' := 13) (dAt D81 6 rfl) ⟨by decide, by decide⟩ rfl (fun c => ?_) (fun c => ?_)
  · replace h := h.1 c
    refine e_aload_n (pc' := 21) (dAt D81 10 rfl) rfl rfl ?_
    refine e_getfield (pc' := 24) (dAt D81 11 rfl) rfl rfl hOx1 (hT_2.int hOx1 1 (by decide)) ?_
    replace h := h _ rfl
    refine e_putfield (pc' := 27) (dAt D81 12 rfl) rfl rfl hOx0 rfl rfl (fun e => by cases e) ?_
    refine wtF hT_2 hOx0 (by decide) (fun hT_4 => ?_)
    refine e_aload_n (pc' := 28) (dAt D81 13 rfl) rfl rfl ?_
    refine e_aload_n (pc' := 29) (dAt D81 14 rfl) rfl rfl ?_
    refine e_getfield (pc' := 32) (dAt D81 15 rfl) rfl rfl hOx0 (hT_4.int hOx0 3 (by decide)) ?_
    refine e_if_eq (t := 42) (pc' := 35) (dAt D81 16 rfl) ⟨by decide, by decide⟩ rfl (fun c => ?_) (fun c => ?_)
    · replace h := h.1 c
      refine e_aload_n (pc' := 43) (dAt D81 20 rfl) rfl rfl ?_
      refine e_getfield (pc' := 46) (dAt D81 21 rfl) rfl rfl hOx1 (hT_4.int hOx1 0 (by decide)) ?_
      replace h := h _ rfl
      refine e_putfield (pc' := 49) (dAt D81 22 rfl) rfl rfl hOx0 rfl rfl (fun e => by cases e) ?_
      refine wtF hT_4 hOx0 (by decide) (fun hT_6 => ?_)
      refine e_aload_n (pc' := 50) (dAt D81 23 rfl) rfl rfl ?_
      refine e_aload_n (pc' := 51) (dAt D81 24 rfl) rfl rfl ?_
      refine e_getfield (pc' := 54) (dAt D81 25 rfl) rfl rfl hOx0 (hT_6.int hOx0 11 (by decide)) ?_
      replace h := h _ rfl
      refine e_putfield (pc' := 57) (dAt D81 26 rfl) rfl rfl hOx0 rfl rfl (fun e => by cases e) ?_
      refine wtF hT_6 hOx0 (by decide) (fun hT_8 => ?_)
      refine e_aload_n (pc' := 58) (dAt D81 27 rfl) rfl rfl ?_
      obtain ⟨r_9, l_10, f1, f_11, h⟩ := h
      refine e_getfield (pc' := 61) (dAt D81 28 rfl) rfl rfl hOx0 f1 ?_
      refine e_iconst (pc' := 62) (v := 0) (dAt D81 29 rfl) rfl (by decide) ?_
      exact e_call2 h (dAt D81 30 rfl) (hi2 rfl) rfl G11 (by decide) rfl (Nat.le_of_ble_eq_true rfl) rfl rfl rfl
    · replace h := h.2 c
      refine e_aload_n (pc' := 36) (dAt D81 17 rfl) rfl rfl ?_
      refine e_getfield (pc' := 39) (dAt D81 18 rfl) rfl rfl hOx1 (hT_4.int hOx1 1 (by decide)) ?_
      refine e_goto (t := 46) (dAt D81 19 rfl) ⟨by decide, by decide⟩ ?_
      replace h := h _ rfl
      refine e_putfield (pc' := 49) (dAt D81 22 rfl) rfl rfl hOx0 rfl rfl (fun e => by cases e) ?_
      refine wtF hT_4 hOx0 (by decide) (fun hT_13 => ?_)
      refine e_aload_n (pc' := 50) (dAt D81 23 rfl) rfl rfl ?_
      refine e_aload_n (pc' := 51) (dAt D81 24 rfl) rfl rfl ?_
      refine e_getfield (pc' := 54) (dAt D81 25 rfl) rfl rfl hOx0 (hT_13.int hOx0 11 (by decide)) ?_
      replace h := h _ rfl
      refine e_putfield (pc' := 57) (dAt D81 26 rfl) rfl rfl hOx0 rfl rfl (fun e => by cases e) ?_
      refine wtF hT_13 hOx0 (by decide) (fun hT_15 => ?_)
      refine e_aload_n (pc' := 58) (dAt D81 27 rfl) rfl rfl ?_
      obtain ⟨r_16, l_17, f1, f_18, h⟩ := h
      refine e_getfield (pc' := 61) (dAt D81 28 rfl) rfl rfl hOx0 f1 ?_
      refine e_iconst (pc' := 62) (v := 0) (dAt D81 29 rfl) rfl (by decide) ?_
      exact e_call2 h (dAt D81 30 rfl) (hi2 rfl) rfl G11 (by decide) rfl (Nat.le_of_ble_eq_true rfl) rfl rfl rfl
  · replace h := h.2 c
    refine e_aload_n (pc' := 14) (dAt D81 7 rfl) rfl rfl ?_
    refine e_getfield (pc' := 17) (dAt D81 8 rfl) rfl rfl hOx1 (hT_2.int hOx1 0 (by decide)) ?_
    refine e_goto (t := 24) (dAt D81 9 rfl) ⟨by decide, by decide⟩ ?_
    replace h := h _ rfl
    refine e_putfield (pc' := 27) (dAt D81 12 rfl) rfl rfl hOx0 rfl rfl (fun e => by cases e) ?_
    refine wtF hT_2 hOx0 (by decide) (fun hT_20 => ?_)
    refine e_aload_n (pc' := 28) (dAt D81 13 rfl) rfl rfl ?_
    refine e_aload_n (pc' := 29) (dAt D81 14 rfl) rfl rfl ?_
    refine e_getfield (pc' := 32) (dAt D81 15 rfl) rfl rfl hOx0 (hT_20.int hOx0 3 (by decide)) ?_
    refine e_if_eq (t := 42) (pc' := 35) (dAt D81 16 rfl) ⟨by decide, by decide⟩ rfl (fun c => ?_) (fun c => ?_)
    · replace h := h.1 c
      refine e_aload_n (pc' := 43) (dAt D81 20 rfl) rfl rfl ?_
      refine e_getfield (pc' := 46) (dAt D81 21 rfl) rfl rfl hOx1 (hT_20.int hOx1 0 (by decide)) ?_
      replace h := h _ rfl
      refine e_putfield (pc' := 49) (dAt D81 22 rfl) rfl rfl hOx0 rfl rfl (fun e => by cases e) ?_
      refine wtF hT_20 hOx0 (by decide) (fun hT_22 => ?_)
      refine e_aload_n (pc' := 50) (dAt D81 23 rfl) rfl rfl ?_
      refine e_aload_n (pc' := 51) (dAt D81 24 rfl) rfl rfl ?_
      refine e_getfield (pc' := 54) (dAt D81 25 rfl) rfl rfl hOx0 (hT_22.int hOx0 11 (by decide)) ?_
      replace h := h _ rfl
      refine e_putfield (pc' := 57) (dAt D81 26 rfl) rfl rfl hOx0 rfl rfl (fun e => by cases e) ?_
      refine wtF hT_22 hOx0 (by decide) (fun hT_24 => ?_)
      refine e_aload_n (pc' := 58) (dAt D81 27 rfl) rfl rfl ?_
      obtain ⟨r_25, l_26, f1, f_27, h⟩ := h
      refine e_getfield (pc' := 61) (dAt D81 28 rfl) rfl rfl hOx0 f1 ?_
      refine e_iconst (pc' := 62) (v := 0) (dAt D81 29 rfl) rfl (by decide) ?_
      exact e_call2 h (dAt D81 30 rfl) (hi2 rfl) rfl G11 (by decide) rfl (Nat.le_of_ble_eq_true rfl) rfl rfl rfl
    · replace h := h.2 c
      refine e_aload_n (pc' := 36) (dAt D81 17 rfl) rfl rfl ?_
      refine e_getfield (pc' := 39) (dAt D81 18 rfl) rfl rfl hOx1 (hT_20.int hOx1 1 (by decide)) ?_
      refine e_goto (t := 46) (dAt D81 19 rfl) ⟨by decide, by decide⟩ ?_
      replace h := h _ rfl
      refine e_putfield (pc' := 49) (dAt D81 22 rfl) rfl rfl hOx0 rfl rfl (fun e => by cases e) ?_
      refine wtF hT_20 hOx0 (by decide) (fun hT_29 => ?_)
      refine e_aload_n (pc' := 50) (dAt D81 23 rfl) rfl rfl ?_
      refine e_aload_n (pc' := 51) (dAt D81 24 rfl) rfl rfl ?_
      refine e_getfield (pc' := 54) (dAt D81 25 rfl) rfl rfl hOx0 (hT_29.int hOx0 11 (by decide)) ?_
      replace h := h _ rfl
      refine e_putfield (pc' := 57) (dAt D81 26 rfl) rfl rfl hOx0 rfl rfl (fun e => by cases e) ?_
      refine wtF hT_29 hOx0 (by decide) (fun hT_31 => ?_)
      refine e_aload_n (pc' := 58) (dAt D81 27 rfl) rfl rfl ?_
      obtain ⟨r_32, l_33, f1, f_34, h⟩ := h
      refine e_getfield (pc' := 61) (dAt D81 28 rfl) rfl rfl hOx0 f1 ?_
      refine e_iconst (pc' := 62) (v := 0) (dAt D81 29 rfl) rfl (by decide) ?_
      exact e_call2 h (dAt D81 30 rfl) (hi2 rfl) rfl G11 (by decide) rfl (Nat.le_of_ble_eq_true rfl) rfl rfl rfl
-- PlaceNets$Flows.build.(LPlaceNets$Net;)V, from 65
set_option maxRecDepth 20000 in
theorem bk81_65 {d b : Nat} {Q : Option Value → mMem → Prop} {m : mMem} {x0 : Nat} {x1 : Nat} {x2 : Option Value} (hT : mWT m) (hOx0 : m.1 x0 = some (.inr 4) ∧ x0 ≠ 0) (hOx1 : m.1 x1 = some (.inr 2) ∧ x1 ≠ 0)
    (h : mEs d 81 b g81 (67, [some (.ref x0), some (.ref x1), some (.int 0)], [], m) Q) :
    mEs d 81 b g81 (65, [some (.ref x0), some (.ref x1), x2], [], m) Q := by
  refine e_iconst (pc' := 66) (v := 0) (dAt D81 31 rfl) rfl (by decide) ?_
  refine e_istore_n (pc' := 67) (dAt D81 32 rfl) rfl (Nat.le_of_ble_eq_true rfl) rfl ?_
  exact h
-- PlaceNets$Flows.build.(LPlaceNets$Net;)V, from 67
set_option maxRecDepth 20000 in
theorem bk81_67 {d b : Nat} {Q : Option Value → mMem → Prop} {m : mMem} {x0 : Nat} {x1 : Nat} {x2 : Int32} (hT : mWT m) (hOx0 : m.1 x0 = some (.inr 4) ∧ x0 ≠ 0) (hOx1 : m.1 x1 = some (.inr 2) ∧ x1 ≠ 0)
    (h : ((((iF m x0 11) ≤ x2) → (mEs d 81 b g81 (104, [some (.ref x0), some (.ref x1), some (.int 0)], [], m) Q)) ∧ (¬ ((iF m x0 11) ≤ x2) → (∃ (r_1 l_2 : Nat), (m.2.1 x0 4 = .ref r_1) ∧ ((m.1 r_1 = some (.inl (.int, l_2)) ∧ r_1 ≠ 0) ∧ ((mIn ((x2 * 10) + x2) l_2 = true) ∧ (∀ (m_4 : mMem), m_4 = (mSetI m r_1 (upd (m.2.2.1 r_1) ((x2 * 10) + x2).toNatClampNeg 1)) → (mIn x2 300 = true) ∧ (∀ (m_6 : mMem), m_6 = (mSetI m_4 (64 * x0 + 4) (upd (m_4.2.2.1 (64 * x0 + 4)) x2.toNatClampNeg ((1 : Int32) <<< (x2 &&& 31)))) → ∀ (v_8 : Int32), v_8 = (x2 + 1) → mEs d 81 b g81 (67, [some (.ref x0), some (.ref x1), some (.int v_8)], [], m_6) Q)))))))) :
    mEs d 81 b g81 (67, [some (.ref x0), some (.ref x1), some (.int x2)], [], m) Q := by
  refine e_iload_n (pc' := 68) (dAt D81 33 rfl) rfl rfl ?_
  refine e_aload_n (pc' := 69) (dAt D81 34 rfl) rfl rfl ?_
  refine e_getfield (pc' := 72) (dAt D81 35 rfl) rfl rfl hOx0 (hT.int hOx0 11 (by decide)) ?_
  refine e_icmp_ge (t := 102) (pc' := 75) (dAt D81 36 rfl) ⟨by decide, by decide⟩ rfl (fun c => ?_) (fun c => ?_)
  · replace h := h.1 c
    refine e_iconst (pc' := 103) (v := 0) (dAt D81 55 rfl) rfl (by decide) ?_
    refine e_istore_n (pc' := 104) (dAt D81 56 rfl) rfl (Nat.le_of_ble_eq_true rfl) rfl ?_
    exact h
  · replace h := h.2 c
    refine e_aload_n (pc' := 76) (dAt D81 37 rfl) rfl rfl ?_
    obtain ⟨r_1, l_2, f1, f_3, h⟩ := h
    refine e_getfield (pc' := 79) (dAt D81 38 rfl) rfl rfl hOx0 f1 ?_
    refine e_iload_n (pc' := 80) (dAt D81 39 rfl) rfl rfl ?_
    refine e_bipush (pc' := 82) (v := 10) (dAt D81 40 rfl) rfl (by decide) ?_
    refine e_imul (pc' := 83) (dAt D81 41 rfl) rfl ?_
    refine e_iload_n (pc' := 84) (dAt D81 42 rfl) rfl rfl ?_
    refine e_iadd (pc' := 85) (dAt D81 43 rfl) rfl ?_
    refine e_iconst (pc' := 86) (v := 1) (dAt D81 44 rfl) rfl (by decide) ?_
    obtain ⟨f1, h⟩ := h
    replace h := h _ rfl
    refine e_iastore (pc' := 87) (dAt D81 45 rfl) rfl f_3.1 f_3.2 f1 (nar_i _) ?_
    refine wtI hT (fun hT_5 => ?_)
    refine e_aload_n (pc' := 88) (dAt D81 46 rfl) rfl rfl ?_
    refine e_getfield (pc' := 91) (dAt D81 47 rfl) rfl rfl hOx0 (hT_5.own hOx0 1 rfl) ?_
    refine e_iload_n (pc' := 92) (dAt D81 48 rfl) rfl rfl ?_
    refine e_iconst (pc' := 93) (v := 1) (dAt D81 49 rfl) rfl (by decide) ?_
    refine e_iload_n (pc' := 94) (dAt D81 50 rfl) rfl rfl ?_
    refine e_ishl (pc' := 95) (dAt D81 51 rfl) rfl ?_
    obtain ⟨f1, h⟩ := h
    replace h := h _ rfl
    refine e_iastore (pc' := 96) (dAt D81 52 rfl) rfl (hT_5.arr hOx0 1 rfl (by decide)).1 (hT_5.arr hOx0 1 rfl (by decide)).2 f1 (nar_i _) ?_
    refine wtI hT_5 (fun hT_7 => ?_)
    replace h := h _ rfl
    refine e_iinc (pc' := 99) (dAt D81 53 rfl) rfl rfl (Nat.le_of_ble_eq_true rfl) (congrArg (_ + ·) (show Int32.ofInt (1) = (1 : Int32) by decide)) rfl ?_
    refine e_goto (t := 67) (dAt D81 54 rfl) ⟨by decide, by decide⟩ ?_
    exact h
-- PlaceNets$Flows.build.(LPlaceNets$Net;)V, from 104
set_option maxRecDepth 20000 in
theorem bk81_104 {d b : Nat} {Q : Option Value → mMem → Prop} {m : mMem} {x0 : Nat} {x1 : Nat} {x2 : Int32} (hT : mWT m) (hOx0 : m.1 x0 = some (.inr 4) ∧ x0 ≠ 0) (hOx1 : m.1 x1 = some (.inr 2) ∧ x1 ≠ 0)
    (h : ((((iF m x0 12) ≤ x2) → (((¬ (iF m x0 2) = 0) → (mEs d 81 b g81 (142, [some (.ref x0), some (.ref x1), some (.int x2)], [], m) Q)) ∧ (¬ (¬ (iF m x0 2) = 0) → (mEv d 91 [.ref x0] m (fun r m' => mEs d 81 b g81 (142, [some (.ref x0), some (.ref x1), some (.int x2)], r.toList ++ [], m') Q))))) ∧ (¬ ((iF m x0 12) ≤ x2) → (((¬ (iF m x0 2) = 0) → (((¬ (iF m x0 2) = 0) → (mEs d 81 b g81 (142, [some (.ref x0), some (.ref x1), some (.int x2)], [], m) Q)) ∧ (¬ (¬ (iF m x0 2) = 0) → (mEv d 91 [.ref x0] m (fun r m' => mEs d 81 b g81 (142, [some (.ref x0), some (.ref x1), some (.int x2)], r.toList ++ [], m') Q))))) ∧ (¬ (¬ (iF m x0 2) = 0) → (mEv d 82 [.ref x0, .ref x1, .int x2] m (fun r m' => mEs d 81 b g81 (125, [some (.ref x0), some (.ref x1), some (.int x2)], r.toList ++ [], m') Q))))))) :
    mEs d 81 b g81 (104, [some (.ref x0), some (.ref x1), some (.int x2)], [], m) Q := by
  refine e_iload_n (pc' := 105) (dAt D81 57 rfl) rfl rfl ?_
  refine e_aload_n (pc' := 106) (dAt D81 58 rfl) rfl rfl ?_
  refine e_getfield (pc' := 109) (dAt D81 59 rfl) rfl rfl hOx0 (hT.int hOx0 12 (by decide)) ?_
  refine e_icmp_ge (t := 131) (pc' := 112) (dAt D81 60 rfl) ⟨by decide, by decide⟩ rfl (fun c => ?_) (fun c => ?_)
  · replace h := h.1 c
    refine e_aload_n (pc' := 132) (dAt D81 70 rfl) rfl rfl ?_
    refine e_getfield (pc' := 135) (dAt D81 71 rfl) rfl rfl hOx0 (hT.int hOx0 2 (by decide)) ?_
    refine e_if_ne (t := 142) (pc' := 138) (dAt D81 72 rfl) ⟨by decide, by decide⟩ rfl (fun c => ?_) (fun c => ?_)
    · replace h := h.1 c
      exact h
    · replace h := h.2 c
      refine e_aload_n (pc' := 139) (dAt D81 73 rfl) rfl rfl ?_
      exact e_call2 h (dAt D81 74 rfl) (hi0 rfl) rfl G91 (by decide) rfl (Nat.le_of_ble_eq_true rfl) (kV hOx0 rfl rfl) rfl rfl
  · replace h := h.2 c
    refine e_aload_n (pc' := 113) (dAt D81 61 rfl) rfl rfl ?_
    refine e_getfield (pc' := 116) (dAt D81 62 rfl) rfl rfl hOx0 (hT.int hOx0 2 (by decide)) ?_
    refine e_if_ne (t := 131) (pc' := 119) (dAt D81 63 rfl) ⟨by decide, by decide⟩ rfl (fun c => ?_) (fun c => ?_)
    · replace h := h.1 c
      refine e_aload_n (pc' := 132) (dAt D81 70 rfl) rfl rfl ?_
      refine e_getfield (pc' := 135) (dAt D81 71 rfl) rfl rfl hOx0 (hT.int hOx0 2 (by decide)) ?_
      refine e_if_ne (t := 142) (pc' := 138) (dAt D81 72 rfl) ⟨by decide, by decide⟩ rfl (fun c => ?_) (fun c => ?_)
      · replace h := h.1 c
        exact h
      · replace h := h.2 c
        refine e_aload_n (pc' := 139) (dAt D81 73 rfl) rfl rfl ?_
        exact e_call2 h (dAt D81 74 rfl) (hi0 rfl) rfl G91 (by decide) rfl (Nat.le_of_ble_eq_true rfl) (kV hOx0 rfl rfl) rfl rfl
    · replace h := h.2 c
      refine e_aload_n (pc' := 120) (dAt D81 64 rfl) rfl rfl ?_
      refine e_aload_n (pc' := 121) (dAt D81 65 rfl) rfl rfl ?_
      refine e_iload_n (pc' := 122) (dAt D81 66 rfl) rfl rfl ?_
      exact e_call2 h (dAt D81 67 rfl) (hi0 rfl) rfl G82 (by decide) rfl (Nat.le_of_ble_eq_true rfl) (kV hOx0 rfl rfl) rfl rfl
-- PlaceNets$Flows.build.(LPlaceNets$Net;)V, from 125
set_option maxRecDepth 20000 in
theorem bk81_125 {d b : Nat} {Q : Option Value → mMem → Prop} {m : mMem} {x0 : Nat} {x1 : Nat} {x2 : Int32} (hT : mWT m) (hOx0 : m.1 x0 = some (.inr 4) ∧ x0 ≠ 0) (hOx1 : m.1 x1 = some (.inr 2) ∧ x1 ≠ 0)
    (h : ∀ (v_1 : Int32), v_1 = (x2 + 1) → mEs d 81 b g81 (104, [some (.ref x0), some (.ref x1), some (.int v_1)], [], m) Q) :
    mEs d 81 b g81 (125, [some (.ref x0), some (.ref x1), some (.int x2)], [], m) Q := by
  replace h := h _ rfl
  refine e_iinc (pc' := 128) (dAt D81 68 rfl) rfl rfl (Nat.le_of_ble_eq_true rfl) (congrArg (_ + ·) (show Int32.ofInt (1) = (1 : Int32) by decide)) rfl ?_
  refine e_goto (t := 104) (dAt D81 69 rfl) ⟨by decide, by decide⟩ ?_
  exact h
-- PlaceNets$Flows.build.(LPlaceNets$Net;)V, from 142
set_option maxRecDepth 20000 in
theorem bk81_142 {d b : Nat} {Q : Option Value → mMem → Prop} {m : mMem} {x0 : Nat} {x1 : Nat} {x2 : Int32} (hT : mWT m) (hOx0 : m.1 x0 = some (.inr 4) ∧ x0 ≠ 0) (hOx1 : m.1 x1 = some (.inr 2) ∧ x1 ≠ 0)
    (h : Q none m) :
    mEs d 81 b g81 (142, [some (.ref x0), some (.ref x1), some (.int x2)], [], m) Q := by
  exact e_return (dAt D81 75 rfl) rfl h
-- PlaceNets$Flows.settle.(LPlaceNets$Net;I)V, from 0
set_option maxRecDepth 20000 in
theorem bk82_0 {d b : Nat} {Q : Option Value → mMem → Prop} {m : mMem} {x0 : Nat} {x1 : Nat} {x2 : Int32} {x3 : Option Value} {x4 : Option Value} {x5 : Option Value} {x6 : Option Value} {x7 : Option Value} (hT : mWT m) (hOx0 : m.1 x0 = some (.inr 4) ∧ x0 ≠ 0) (hOx1 : m.1 x1 = some (.inr 2) ∧ x1 ≠ 0)
    (h : mEs d 82 b g82 (8, [some (.ref x0), some (.ref x1), some (.int x2), some (.int 0), some (.int 0), some (.int 0), x6, x7], [], m) Q) :
    mEs d 82 b g82 (0, [some (.ref x0), some (.ref x1), some (.int x2), x3, x4, x5, x6, x7], [], m) Q := by
  refine e_iconst (pc' := 1) (v := 0) (dAt D82 0 rfl) rfl (by decide) ?_
  refine e_istore_n (pc' := 2) (dAt D82 1 rfl) rfl (Nat.le_of_ble_eq_true rfl) rfl ?_
  refine e_iconst (pc' := 3) (v := 0) (dAt D82 2 rfl) rfl (by decide) ?_
  refine e_istore (pc' := 5) (dAt D82 3 rfl) rfl (Nat.le_of_ble_eq_true rfl) rfl ?_
  refine e_iconst (pc' := 6) (v := 0) (dAt D82 4 rfl) rfl (by decide) ?_
  refine e_istore (pc' := 8) (dAt D82 5 rfl) rfl (Nat.le_of_ble_eq_true rfl) rfl ?_
  exact h
-- PlaceNets$Flows.settle.(LPlaceNets$Net;I)V, from 8
set_option maxRecDepth 20000 in
theorem bk82_8 {d b : Nat} {Q : Option Value → mMem → Prop} {m : mMem} {x0 : Nat} {x1 : Nat} {x2 : Int32} {x3 : Int32} {x4 : Int32} {x5 : Int32} {x6 : Option Value} {x7 : Option Value} (hT : mWT m) (hOx0 : m.1 x0 = some (.inr 4) ∧ x0 ≠ 0) (hOx1 : m.1 x1 = some (.inr 2) ∧ x1 ≠ 0)
    (h : ((((iF m x0 1) ≤ x5) → (((((((iF m x0 1) - x3) - x4) + (x3 * x4)) ≤ 300) → (mEv d 84 [.ref x0] m (fun r m' => mEs d 82 b g82 (111, [some (.ref x0), some (.ref x1), some (.int x2), some (.int x3), some (.int x4), some (.int x5), x6, x7], r.toList ++ [], m') Q))) ∧ (¬ (((((iF m x0 1) - x3) - x4) + (x3 * x4)) ≤ 300) → (∀ (m_1 : mMem), m_1 = (mSetF m x0 2 (.int 1)) → Q none m_1)))) ∧ (¬ ((iF m x0 1) ≤ x5) → (∃ (r_3 l_4 : Nat), (m.2.1 x0 4 = .ref r_3) ∧ ((m.1 r_3 = some (.inl (.int, l_4)) ∧ r_3 ≠ 0) ∧ (mEv d 83 [.ref x0, .ref x1, .ref r_3, .int x5, .int x2] m (fun r m' => mEs d 82 b g82 (35, [some (.ref x0), some (.ref x1), some (.int x2), some (.int x3), some (.int x4), some (.int x5), x6, x7], r.toList ++ [.int x5, .ref (64 * x0 + 3)], m') Q))))))) :
    mEs d 82 b g82 (8, [some (.ref x0), some (.ref x1), some (.int x2), some (.int x3), some (.int x4), some (.int x5), x6, x7], [], m) Q := by
  refine e_iload (pc' := 10) (dAt D82 6 rfl) rfl rfl ?_
  refine e_aload_n (pc' := 11) (dAt D82 7 rfl) rfl rfl ?_
  refine e_getfield (pc' := 14) (dAt D82 8 rfl) rfl rfl hOx0 (hT.int hOx0 1 (by decide)) ?_
  refine e_icmp_ge (t := 81) (pc' := 17) (dAt D82 9 rfl) ⟨by decide, by decide⟩ rfl (fun c => ?_) (fun c => ?_)
  · replace h := h.1 c
    refine e_aload_n (pc' := 82) (dAt D82 46 rfl) rfl rfl ?_
    refine e_getfield (pc' := 85) (dAt D82 47 rfl) rfl rfl hOx0 (hT.int hOx0 1 (by decide)) ?_
    refine e_iload_n (pc' := 86) (dAt D82 48 rfl) rfl rfl ?_
    refine e_isub (pc' := 87) (dAt D82 49 rfl) rfl ?_
    refine e_iload (pc' := 89) (dAt D82 50 rfl) rfl rfl ?_
    refine e_isub (pc' := 90) (dAt D82 51 rfl) rfl ?_
    refine e_iload_n (pc' := 91) (dAt D82 52 rfl) rfl rfl ?_
    refine e_iload (pc' := 93) (dAt D82 53 rfl) rfl rfl ?_
    refine e_imul (pc' := 94) (dAt D82 54 rfl) rfl ?_
    refine e_iadd (pc' := 95) (dAt D82 55 rfl) rfl ?_
    refine e_sipush (pc' := 98) (v := 300) (dAt D82 56 rfl) rfl (by decide) ?_
    refine e_icmp_le (t := 107) (pc' := 101) (dAt D82 57 rfl) ⟨by decide, by decide⟩ rfl (fun c => ?_) (fun c => ?_)
    · replace h := h.1 c
      refine e_aload_n (pc' := 108) (dAt D82 62 rfl) rfl rfl ?_
      exact e_call2 h (dAt D82 63 rfl) (hi0 rfl) rfl G84 (by decide) rfl (Nat.le_of_ble_eq_true rfl) (kV hOx0 rfl rfl) rfl rfl
    · replace h := h.2 c
      refine e_aload_n (pc' := 102) (dAt D82 58 rfl) rfl rfl ?_
      refine e_iconst (pc' := 103) (v := 1) (dAt D82 59 rfl) rfl (by decide) ?_
      replace h := h _ rfl
      refine e_putfield (pc' := 106) (dAt D82 60 rfl) rfl rfl hOx0 rfl rfl (fun e => by cases e) ?_
      refine wtF hT hOx0 (by decide) (fun hT_2 => ?_)
      exact e_return (dAt D82 61 rfl) rfl h
  · replace h := h.2 c
    refine e_aload_n (pc' := 18) (dAt D82 10 rfl) rfl rfl ?_
    refine e_getfield (pc' := 21) (dAt D82 11 rfl) rfl rfl hOx0 (hT.own hOx0 0 rfl) ?_
    refine e_iload (pc' := 23) (dAt D82 12 rfl) rfl rfl ?_
    refine e_aload_n (pc' := 24) (dAt D82 13 rfl) rfl rfl ?_
    refine e_aload_n (pc' := 25) (dAt D82 14 rfl) rfl rfl ?_
    refine e_aload_n (pc' := 26) (dAt D82 15 rfl) rfl rfl ?_
    obtain ⟨r_3, l_4, f1, f_5, h⟩ := h
    refine e_getfield (pc' := 29) (dAt D82 16 rfl) rfl rfl hOx0 f1 ?_
    refine e_iload (pc' := 31) (dAt D82 17 rfl) rfl rfl ?_
    refine e_iload_n (pc' := 32) (dAt D82 18 rfl) rfl rfl ?_
    exact e_call2 h (dAt D82 19 rfl) (hi0 rfl) rfl G83 (by decide) rfl (Nat.le_of_ble_eq_true rfl) (kV hOx0 rfl rfl) rfl rfl
-- PlaceNets$Flows.settle.(LPlaceNets$Net;I)V, from 35
set_option maxRecDepth 20000 in
theorem bk82_35 {d b : Nat} {Q : Option Value → mMem → Prop} {m : mMem} {x0 : Nat} {x1 : Nat} {x2 : Int32} {x3 : Int32} {x4 : Int32} {x5 : Int32} {x6 : Option Value} {x7 : Option Value} {y0 : Nat} {ly0 : Nat} {y1 : Int32} {y2 : Int64} (hT : mWT m) (hOx0 : m.1 x0 = some (.inr 4) ∧ x0 ≠ 0) (hOx1 : m.1 x1 = some (.inr 2) ∧ x1 ≠ 0) (hAy0 : m.1 y0 = some (.inl (.int, ly0)) ∧ y0 ≠ 0)
    (h : (mIn y1 ly0 = true) ∧ (∀ (m_1 : mMem), m_1 = (mSetI m y0 (upd (m.2.2.1 y0) y1.toNatClampNeg y2.toInt32)) → (mIn x5 300 = true) ∧ ((((m_1.2.2.1 (64 * x0 + 3) x5.toNatClampNeg) ≤ 0) → (∀ (v_3 : Int32), v_3 = (x3 + 0) → (mIn x5 300 = true) ∧ (((0 ≤ (m_1.2.2.1 (64 * x0 + 3) x5.toNatClampNeg)) → (∀ (v_4 : Int32), v_4 = (x4 + 0) → ∀ (v_5 : Int32), v_5 = (x5 + 1) → mEs d 82 b g82 (8, [some (.ref x0), some (.ref x1), some (.int x2), some (.int v_3), some (.int v_4), some (.int v_5), x6, x7], [], m_1) Q)) ∧ (¬ (0 ≤ (m_1.2.2.1 (64 * x0 + 3) x5.toNatClampNeg)) → (∀ (v_6 : Int32), v_6 = (x4 + 1) → ∀ (v_7 : Int32), v_7 = (x5 + 1) → mEs d 82 b g82 (8, [some (.ref x0), some (.ref x1), some (.int x2), some (.int v_3), some (.int v_6), some (.int v_7), x6, x7], [], m_1) Q))))) ∧ (¬ ((m_1.2.2.1 (64 * x0 + 3) x5.toNatClampNeg) ≤ 0) → (∀ (v_8 : Int32), v_8 = (x3 + 1) → (mIn x5 300 = true) ∧ (((0 ≤ (m_1.2.2.1 (64 * x0 + 3) x5.toNatClampNeg)) → (∀ (v_9 : Int32), v_9 = (x4 + 0) → ∀ (v_10 : Int32), v_10 = (x5 + 1) → mEs d 82 b g82 (8, [some (.ref x0), some (.ref x1), some (.int x2), some (.int v_8), some (.int v_9), some (.int v_10), x6, x7], [], m_1) Q)) ∧ (¬ (0 ≤ (m_1.2.2.1 (64 * x0 + 3) x5.toNatClampNeg)) → (∀ (v_11 : Int32), v_11 = (x4 + 1) → ∀ (v_12 : Int32), v_12 = (x5 + 1) → mEs d 82 b g82 (8, [some (.ref x0), some (.ref x1), some (.int x2), some (.int v_8), some (.int v_11), some (.int v_12), x6, x7], [], m_1) Q)))))))) :
    mEs d 82 b g82 (35, [some (.ref x0), some (.ref x1), some (.int x2), some (.int x3), some (.int x4), some (.int x5), x6, x7], [.long y2, .int y1, .ref y0], m) Q := by
  refine e_l2i (pc' := 36) (dAt D82 20 rfl) rfl ?_
  obtain ⟨f1, h⟩ := h
  replace h := h _ rfl
  refine e_iastore (pc' := 37) (dAt D82 21 rfl) rfl hAy0.1 hAy0.2 f1 (nar_i _) ?_
  refine wtI hT (fun hT_2 => ?_)
  refine e_iload_n (pc' := 38) (dAt D82 22 rfl) rfl rfl ?_
  refine e_aload_n (pc' := 39) (dAt D82 23 rfl) rfl rfl ?_
  refine e_getfield (pc' := 42) (dAt D82 24 rfl) rfl rfl hOx0 (hT_2.own hOx0 0 rfl) ?_
  refine e_iload (pc' := 44) (dAt D82 25 rfl) rfl rfl ?_
  obtain ⟨f1, h⟩ := h
  refine e_iaload (pc' := 45) (dAt D82 26 rfl) rfl (hT_2.arr hOx0 0 rfl (by decide)).1 (Or.inl (hT_2.arr hOx0 0 rfl (by decide)).2) f1 rfl ?_
  refine e_if_le (t := 52) (pc' := 48) (dAt D82 27 rfl) ⟨by decide, by decide⟩ rfl (fun c => ?_) (fun c => ?_)
  · replace h := h.1 c
    refine e_iconst (pc' := 53) (v := 0) (dAt D82 30 rfl) rfl (by decide) ?_
    refine e_iadd (pc' := 54) (dAt D82 31 rfl) rfl ?_
    replace h := h _ rfl
    refine e_istore_n (pc' := 55) (dAt D82 32 rfl) rfl (Nat.le_of_ble_eq_true rfl) rfl ?_
    refine e_iload (pc' := 57) (dAt D82 33 rfl) rfl rfl ?_
    refine e_aload_n (pc' := 58) (dAt D82 34 rfl) rfl rfl ?_
    refine e_getfield (pc' := 61) (dAt D82 35 rfl) rfl rfl hOx0 (hT_2.own hOx0 0 rfl) ?_
    refine e_iload (pc' := 63) (dAt D82 36 rfl) rfl rfl ?_
    obtain ⟨f1, h⟩ := h
    refine e_iaload (pc' := 64) (dAt D82 37 rfl) rfl (hT_2.arr hOx0 0 rfl (by decide)).1 (Or.inl (hT_2.arr hOx0 0 rfl (by decide)).2) f1 rfl ?_
    refine e_if_ge (t := 71) (pc' := 67) (dAt D82 38 rfl) ⟨by decide, by decide⟩ rfl (fun c => ?_) (fun c => ?_)
    · replace h := h.1 c
      refine e_iconst (pc' := 72) (v := 0) (dAt D82 41 rfl) rfl (by decide) ?_
      refine e_iadd (pc' := 73) (dAt D82 42 rfl) rfl ?_
      replace h := h _ rfl
      refine e_istore (pc' := 75) (dAt D82 43 rfl) rfl (Nat.le_of_ble_eq_true rfl) rfl ?_
      replace h := h _ rfl
      refine e_iinc (pc' := 78) (dAt D82 44 rfl) rfl rfl (Nat.le_of_ble_eq_true rfl) (congrArg (_ + ·) (show Int32.ofInt (1) = (1 : Int32) by decide)) rfl ?_
      refine e_goto (t := 8) (dAt D82 45 rfl) ⟨by decide, by decide⟩ ?_
      exact h
    · replace h := h.2 c
      refine e_iconst (pc' := 68) (v := 1) (dAt D82 39 rfl) rfl (by decide) ?_
      refine e_goto (t := 72) (dAt D82 40 rfl) ⟨by decide, by decide⟩ ?_
      refine e_iadd (pc' := 73) (dAt D82 42 rfl) rfl ?_
      replace h := h _ rfl
      refine e_istore (pc' := 75) (dAt D82 43 rfl) rfl (Nat.le_of_ble_eq_true rfl) rfl ?_
      replace h := h _ rfl
      refine e_iinc (pc' := 78) (dAt D82 44 rfl) rfl rfl (Nat.le_of_ble_eq_true rfl) (congrArg (_ + ·) (show Int32.ofInt (1) = (1 : Int32) by decide)) rfl ?_
      refine e_goto (t := 8) (dAt D82 45 rfl) ⟨by decide, by decide⟩ ?_
      exact h
  · replace h := h.2 c
    refine e_iconst (pc' := 49) (v := 1) (dAt D82 28 rfl) rfl (by decide) ?_
    refine e_goto (t := 53) (dAt D82 29 rfl) ⟨by decide, by decide⟩ ?_
    refine e_iadd (pc' := 54) (dAt D82 31 rfl) rfl ?_
    replace h := h _ rfl
    refine e_istore_n (pc' := 55) (dAt D82 32 rfl) rfl (Nat.le_of_ble_eq_true rfl) rfl ?_
    refine e_iload (pc' := 57) (dAt D82 33 rfl) rfl rfl ?_
    refine e_aload_n (pc' := 58) (dAt D82 34 rfl) rfl rfl ?_
    refine e_getfield (pc' := 61) (dAt D82 35 rfl) rfl rfl hOx0 (hT_2.own hOx0 0 rfl) ?_
    refine e_iload (pc' := 63) (dAt D82 36 rfl) rfl rfl ?_
    obtain ⟨f1, h⟩ := h
    refine e_iaload (pc' := 64) (dAt D82 37 rfl) rfl (hT_2.arr hOx0 0 rfl (by decide)).1 (Or.inl (hT_2.arr hOx0 0 rfl (by decide)).2) f1 rfl ?_
    refine e_if_ge (t := 71) (pc' := 67) (dAt D82 38 rfl) ⟨by decide, by decide⟩ rfl (fun c => ?_) (fun c => ?_)
    · replace h := h.1 c
      refine e_iconst (pc' := 72) (v := 0) (dAt D82 41 rfl) rfl (by decide) ?_
      refine e_iadd (pc' := 73) (dAt D82 42 rfl) rfl ?_
      replace h := h _ rfl
      refine e_istore (pc' := 75) (dAt D82 43 rfl) rfl (Nat.le_of_ble_eq_true rfl) rfl ?_
      replace h := h _ rfl
      refine e_iinc (pc' := 78) (dAt D82 44 rfl) rfl rfl (Nat.le_of_ble_eq_true rfl) (congrArg (_ + ·) (show Int32.ofInt (1) = (1 : Int32) by decide)) rfl ?_
      refine e_goto (t := 8) (dAt D82 45 rfl) ⟨by decide, by decide⟩ ?_
      exact h
    · replace h := h.2 c
      refine e_iconst (pc' := 68) (v := 1) (dAt D82 39 rfl) rfl (by decide) ?_
      refine e_goto (t := 72) (dAt D82 40 rfl) ⟨by decide, by decide⟩ ?_
      refine e_iadd (pc' := 73) (dAt D82 42 rfl) rfl ?_
      replace h := h _ rfl
      refine e_istore (pc' := 75) (dAt D82 43 rfl) rfl (Nat.le_of_ble_eq_true rfl) rfl ?_
      replace h := h _ rfl
      refine e_iinc (pc' := 78) (dAt D82 44 rfl) rfl rfl (Nat.le_of_ble_eq_true rfl) (congrArg (_ + ·) (show Int32.ofInt (1) = (1 : Int32) by decide)) rfl ?_
      refine e_goto (t := 8) (dAt D82 45 rfl) ⟨by decide, by decide⟩ ?_
      exact h
-- PlaceNets$Flows.settle.(LPlaceNets$Net;I)V, from 111
set_option maxRecDepth 20000 in
theorem bk82_111 {d b : Nat} {Q : Option Value → mMem → Prop} {m : mMem} {x0 : Nat} {x1 : Nat} {x2 : Int32} {x3 : Int32} {x4 : Int32} {x5 : Int32} {x6 : Option Value} {x7 : Option Value} {y0 : Int32} (hT : mWT m) (hOx0 : m.1 x0 = some (.inr 4) ∧ x0 ≠ 0) (hOx1 : m.1 x1 = some (.inr 2) ∧ x1 ≠ 0)
    (h : mEs d 82 b g82 (116, [some (.ref x0), some (.ref x1), some (.int x2), some (.int x3), some (.int x4), some (.int y0), some (.int 0), x7], [], m) Q) :
    mEs d 82 b g82 (111, [some (.ref x0), some (.ref x1), some (.int x2), some (.int x3), some (.int x4), some (.int x5), x6, x7], [.int y0], m) Q := by
  refine e_istore (pc' := 113) (dAt D82 64 rfl) rfl (Nat.le_of_ble_eq_true rfl) rfl ?_
  refine e_iconst (pc' := 114) (v := 0) (dAt D82 65 rfl) rfl (by decide) ?_
  refine e_istore (pc' := 116) (dAt D82 66 rfl) rfl (Nat.le_of_ble_eq_true rfl) rfl ?_
  exact h
-- PlaceNets$Flows.settle.(LPlaceNets$Net;I)V, from 116
set_option maxRecDepth 20000 in
theorem bk82_116 {d b : Nat} {Q : Option Value → mMem → Prop} {m : mMem} {x0 : Nat} {x1 : Nat} {x2 : Int32} {x3 : Int32} {x4 : Int32} {x5 : Int32} {x6 : Int32} {x7 : Option Value} (hT : mWT m) (hOx0 : m.1 x0 = some (.inr 4) ∧ x0 ≠ 0) (hOx1 : m.1 x1 = some (.inr 2) ∧ x1 ≠ 0)
    (h : ((((iF m x0 1) ≤ x6) → (∃ (r_1 l_2 : Nat), (m.2.1 x0 4 = .ref r_1) ∧ ((m.1 r_1 = some (.inl (.int, l_2)) ∧ r_1 ≠ 0) ∧ (∃ (r_4 l_5 : Nat), (m.2.1 x0 5 = .ref r_4) ∧ ((m.1 r_4 = some (.inl (.int, l_5)) ∧ r_4 ≠ 0) ∧ (∀ (m_7 : mMem), m_7 = (mSetF m x0 4 (.ref r_4)) → ∀ (m_9 : mMem), m_9 = (mSetF m_7 x0 5 (.ref r_1)) → ∀ (m_11 : mMem), m_11 = (mSetF m_9 x0 1 (.int x5)) → mEv d 88 [.ref x0] m_11 (fun r m' => mEs d 82 b g82 (237, [some (.ref x0), some (.ref x1), some (.int x2), some (.int x3), some (.int x4), some (.int x5), some (.ref r_1), x7], r.toList ++ [], m') Q))))))) ∧ (¬ ((iF m x0 1) ≤ x6) → (((¬ (iF m x0 2) = 0) → (∃ (r_13 l_14 : Nat), (m.2.1 x0 4 = .ref r_13) ∧ ((m.1 r_13 = some (.inl (.int, l_14)) ∧ r_13 ≠ 0) ∧ (∃ (r_16 l_17 : Nat), (m.2.1 x0 5 = .ref r_16) ∧ ((m.1 r_16 = some (.inl (.int, l_17)) ∧ r_16 ≠ 0) ∧ (∀ (m_19 : mMem), m_19 = (mSetF m x0 4 (.ref r_16)) → ∀ (m_21 : mMem), m_21 = (mSetF m_19 x0 5 (.ref r_13)) → ∀ (m_23 : mMem), m_23 = (mSetF m_21 x0 1 (.int x5)) → mEv d 88 [.ref x0] m_23 (fun r m' => mEs d 82 b g82 (237, [some (.ref x0), some (.ref x1), some (.int x2), some (.int x3), some (.int x4), some (.int x5), some (.ref r_13), x7], r.toList ++ [], m') Q))))))) ∧ (¬ (¬ (iF m x0 2) = 0) → (mEs d 82 b g82 (135, [some (.ref x0), some (.ref x1), some (.int x2), some (.int x3), some (.int x4), some (.int x5), some (.int x6), some (.int 0)], [], m) Q)))))) :
    mEs d 82 b g82 (116, [some (.ref x0), some (.ref x1), some (.int x2), some (.int x3), some (.int x4), some (.int x5), some (.int x6), x7], [], m) Q := by
  refine e_iload (pc' := 118) (dAt D82 67 rfl) rfl rfl ?_
  refine e_aload_n (pc' := 119) (dAt D82 68 rfl) rfl rfl ?_
  refine e_getfield (pc' := 122) (dAt D82 69 rfl) rfl rfl hOx0 (hT.int hOx0 1 (by decide)) ?_
  refine e_icmp_ge (t := 207) (pc' := 125) (dAt D82 70 rfl) ⟨by decide, by decide⟩ rfl (fun c => ?_) (fun c => ?_)
  · replace h := h.1 c
    refine e_aload_n (pc' := 208) (dAt D82 109 rfl) rfl rfl ?_
    obtain ⟨r_1, l_2, f1, f_3, h⟩ := h
    refine e_getfield (pc' := 211) (dAt D82 110 rfl) rfl rfl hOx0 f1 ?_
    refine e_astore (pc' := 213) (dAt D82 111 rfl) rfl (Nat.le_of_ble_eq_true rfl) rfl ?_
    refine e_aload_n (pc' := 214) (dAt D82 112 rfl) rfl rfl ?_
    refine e_aload_n (pc' := 215) (dAt D82 113 rfl) rfl rfl ?_
    obtain ⟨r_4, l_5, f1, f_6, h⟩ := h
    refine e_getfield (pc' := 218) (dAt D82 114 rfl) rfl rfl hOx0 f1 ?_
    replace h := h _ rfl
    refine e_putfield (pc' := 221) (dAt D82 115 rfl) rfl rfl hOx0 rfl rfl (fun e => by cases e) ?_
    refine wtR hT hOx0 (by decide) (by decide) (fun hT_8 => ?_)
    refine e_aload_n (pc' := 222) (dAt D82 116 rfl) rfl rfl ?_
    refine e_aload (pc' := 224) (dAt D82 117 rfl) rfl rfl ?_
    replace h := h _ rfl
    refine e_putfield (pc' := 227) (dAt D82 118 rfl) rfl rfl hOx0 rfl rfl (fun e => by cases e) ?_
    refine wtR hT_8 hOx0 (by decide) (by decide) (fun hT_10 => ?_)
    refine e_aload_n (pc' := 228) (dAt D82 119 rfl) rfl rfl ?_
    refine e_iload (pc' := 230) (dAt D82 120 rfl) rfl rfl ?_
    replace h := h _ rfl
    refine e_putfield (pc' := 233) (dAt D82 121 rfl) rfl rfl hOx0 rfl rfl (fun e => by cases e) ?_
    refine wtF hT_10 hOx0 (by decide) (fun hT_12 => ?_)
    refine e_aload_n (pc' := 234) (dAt D82 122 rfl) rfl rfl ?_
    exact e_call2 h (dAt D82 123 rfl) (hi0 rfl) rfl G88 (by decide) rfl (Nat.le_of_ble_eq_true rfl) (kV hOx0 rfl rfl) rfl rfl
  · replace h := h.2 c
    refine e_aload_n (pc' := 126) (dAt D82 71 rfl) rfl rfl ?_
    refine e_getfield (pc' := 129) (dAt D82 72 rfl) rfl rfl hOx0 (hT.int hOx0 2 (by decide)) ?_
    refine e_if_ne (t := 207) (pc' := 132) (dAt D82 73 rfl) ⟨by decide, by decide⟩ rfl (fun c => ?_) (fun c => ?_)
    · replace h := h.1 c
      refine e_aload_n (pc' := 208) (dAt D82 109 rfl) rfl rfl ?_
      obtain ⟨r_13, l_14, f1, f_15, h⟩ := h
      refine e_getfield (pc' := 211) (dAt D82 110 rfl) rfl rfl hOx0 f1 ?_
      refine e_astore (pc' := 213) (dAt D82 111 rfl) rfl (Nat.le_of_ble_eq_true rfl) rfl ?_
      refine e_aload_n (pc' := 214) (dAt D82 112 rfl) rfl rfl ?_
      refine e_aload_n (pc' := 215) (dAt D82 113 rfl) rfl rfl ?_
      obtain ⟨r_16, l_17, f1, f_18, h⟩ := h
      refine e_getfield (pc' := 218) (dAt D82 114 rfl) rfl rfl hOx0 f1 ?_
      replace h := h _ rfl
      refine e_putfield (pc' := 221) (dAt D82 115 rfl) rfl rfl hOx0 rfl rfl (fun e => by cases e) ?_
      refine wtR hT hOx0 (by decide) (by decide) (fun hT_20 => ?_)
      refine e_aload_n (pc' := 222) (dAt D82 116 rfl) rfl rfl ?_
      refine e_aload (pc' := 224) (dAt D82 117 rfl) rfl rfl ?_
      replace h := h _ rfl
      refine e_putfield (pc' := 227) (dAt D82 118 rfl) rfl rfl hOx0 rfl rfl (fun e => by cases e) ?_
      refine wtR hT_20 hOx0 (by decide) (by decide) (fun hT_22 => ?_)
      refine e_aload_n (pc' := 228) (dAt D82 119 rfl) rfl rfl ?_
      refine e_iload (pc' := 230) (dAt D82 120 rfl) rfl rfl ?_
      replace h := h _ rfl
      refine e_putfield (pc' := 233) (dAt D82 121 rfl) rfl rfl hOx0 rfl rfl (fun e => by cases e) ?_
      refine wtF hT_22 hOx0 (by decide) (fun hT_24 => ?_)
      refine e_aload_n (pc' := 234) (dAt D82 122 rfl) rfl rfl ?_
      exact e_call2 h (dAt D82 123 rfl) (hi0 rfl) rfl G88 (by decide) rfl (Nat.le_of_ble_eq_true rfl) (kV hOx0 rfl rfl) rfl rfl
    · replace h := h.2 c
      refine e_iconst (pc' := 133) (v := 0) (dAt D82 74 rfl) rfl (by decide) ?_
      refine e_istore (pc' := 135) (dAt D82 75 rfl) rfl (Nat.le_of_ble_eq_true rfl) rfl ?_
      exact h
-- PlaceNets$Flows.settle.(LPlaceNets$Net;I)V, from 135
set_option maxRecDepth 20000 in
theorem bk82_135 {d b : Nat} {Q : Option Value → mMem → Prop} {m : mMem} {x0 : Nat} {x1 : Nat} {x2 : Int32} {x3 : Int32} {x4 : Int32} {x5 : Int32} {x6 : Int32} {x7 : Int32} (hT : mWT m) (hOx0 : m.1 x0 = some (.inr 4) ∧ x0 ≠ 0) (hOx1 : m.1 x1 = some (.inr 2) ∧ x1 ≠ 0)
    (h : ((((iF m x0 1) ≤ x7) → (∀ (v_1 : Int32), v_1 = (x6 + 1) → mEs d 82 b g82 (116, [some (.ref x0), some (.ref x1), some (.int x2), some (.int x3), some (.int x4), some (.int x5), some (.int v_1), some (.int x7)], [], m) Q)) ∧ (¬ ((iF m x0 1) ≤ x7) → (((¬ (iF m x0 2) = 0) → (∀ (v_2 : Int32), v_2 = (x6 + 1) → mEs d 82 b g82 (116, [some (.ref x0), some (.ref x1), some (.int x2), some (.int x3), some (.int x4), some (.int x5), some (.int v_2), some (.int x7)], [], m) Q)) ∧ (¬ (¬ (iF m x0 2) = 0) → ((mIn x6 300 = true) ∧ ((((m.2.2.1 (64 * x0 + 3) x6.toNatClampNeg) ≤ 0) → (∀ (v_3 : Int32), v_3 = (x7 + 1) → mEs d 82 b g82 (135, [some (.ref x0), some (.ref x1), some (.int x2), some (.int x3), some (.int x4), some (.int x5), some (.int x6), some (.int v_3)], [], m) Q)) ∧ (¬ ((m.2.2.1 (64 * x0 + 3) x6.toNatClampNeg) ≤ 0) → ((mIn x7 300 = true) ∧ (((0 ≤ (m.2.2.1 (64 * x0 + 3) x7.toNatClampNeg)) → (∀ (v_4 : Int32), v_4 = (x7 + 1) → mEs d 82 b g82 (135, [some (.ref x0), some (.ref x1), some (.int x2), some (.int x3), some (.int x4), some (.int x5), some (.int x6), some (.int v_4)], [], m) Q)) ∧ (¬ (0 ≤ (m.2.2.1 (64 * x0 + 3) x7.toNatClampNeg)) → (mEv d 85 [.ref x0, .int x6, .int x7, .int x5] m (fun r m' => mEs d 82 b g82 (181, [some (.ref x0), some (.ref x1), some (.int x2), some (.int x3), some (.int x4), some (.int x5), some (.int x6), some (.int x7)], r.toList ++ [], m') Q))))))))))))) :
    mEs d 82 b g82 (135, [some (.ref x0), some (.ref x1), some (.int x2), some (.int x3), some (.int x4), some (.int x5), some (.int x6), some (.int x7)], [], m) Q := by
  refine e_iload (pc' := 137) (dAt D82 76 rfl) rfl rfl ?_
  refine e_aload_n (pc' := 138) (dAt D82 77 rfl) rfl rfl ?_
  refine e_getfield (pc' := 141) (dAt D82 78 rfl) rfl rfl hOx0 (hT.int hOx0 1 (by decide)) ?_
  refine e_icmp_ge (t := 201) (pc' := 144) (dAt D82 79 rfl) ⟨by decide, by decide⟩ rfl (fun c => ?_) (fun c => ?_)
  · replace h := h.1 c
    replace h := h _ rfl
    refine e_iinc (pc' := 204) (dAt D82 107 rfl) rfl rfl (Nat.le_of_ble_eq_true rfl) (congrArg (_ + ·) (show Int32.ofInt (1) = (1 : Int32) by decide)) rfl ?_
    refine e_goto (t := 116) (dAt D82 108 rfl) ⟨by decide, by decide⟩ ?_
    exact h
  · replace h := h.2 c
    refine e_aload_n (pc' := 145) (dAt D82 80 rfl) rfl rfl ?_
    refine e_getfield (pc' := 148) (dAt D82 81 rfl) rfl rfl hOx0 (hT.int hOx0 2 (by decide)) ?_
    refine e_if_ne (t := 201) (pc' := 151) (dAt D82 82 rfl) ⟨by decide, by decide⟩ rfl (fun c => ?_) (fun c => ?_)
    · replace h := h.1 c
      replace h := h _ rfl
      refine e_iinc (pc' := 204) (dAt D82 107 rfl) rfl rfl (Nat.le_of_ble_eq_true rfl) (congrArg (_ + ·) (show Int32.ofInt (1) = (1 : Int32) by decide)) rfl ?_
      refine e_goto (t := 116) (dAt D82 108 rfl) ⟨by decide, by decide⟩ ?_
      exact h
    · replace h := h.2 c
      refine e_aload_n (pc' := 152) (dAt D82 83 rfl) rfl rfl ?_
      refine e_getfield (pc' := 155) (dAt D82 84 rfl) rfl rfl hOx0 (hT.own hOx0 0 rfl) ?_
      refine e_iload (pc' := 157) (dAt D82 85 rfl) rfl rfl ?_
      obtain ⟨f1, h⟩ := h
      refine e_iaload (pc' := 158) (dAt D82 86 rfl) rfl (hT.arr hOx0 0 rfl (by decide)).1 (Or.inl (hT.arr hOx0 0 rfl (by decide)).2) f1 rfl ?_
      refine e_if_le (t := 195) (pc' := 161) (dAt D82 87 rfl) ⟨by decide, by decide⟩ rfl (fun c => ?_) (fun c => ?_)
      · replace h := h.1 c
        replace h := h _ rfl
        refine e_iinc (pc' := 198) (dAt D82 105 rfl) rfl rfl (Nat.le_of_ble_eq_true rfl) (congrArg (_ + ·) (show Int32.ofInt (1) = (1 : Int32) by decide)) rfl ?_
        refine e_goto (t := 135) (dAt D82 106 rfl) ⟨by decide, by decide⟩ ?_
        exact h
      · replace h := h.2 c
        refine e_aload_n (pc' := 162) (dAt D82 88 rfl) rfl rfl ?_
        refine e_getfield (pc' := 165) (dAt D82 89 rfl) rfl rfl hOx0 (hT.own hOx0 0 rfl) ?_
        refine e_iload (pc' := 167) (dAt D82 90 rfl) rfl rfl ?_
        obtain ⟨f1, h⟩ := h
        refine e_iaload (pc' := 168) (dAt D82 91 rfl) rfl (hT.arr hOx0 0 rfl (by decide)).1 (Or.inl (hT.arr hOx0 0 rfl (by decide)).2) f1 rfl ?_
        refine e_if_ge (t := 195) (pc' := 171) (dAt D82 92 rfl) ⟨by decide, by decide⟩ rfl (fun c => ?_) (fun c => ?_)
        · replace h := h.1 c
          replace h := h _ rfl
          refine e_iinc (pc' := 198) (dAt D82 105 rfl) rfl rfl (Nat.le_of_ble_eq_true rfl) (congrArg (_ + ·) (show Int32.ofInt (1) = (1 : Int32) by decide)) rfl ?_
          refine e_goto (t := 135) (dAt D82 106 rfl) ⟨by decide, by decide⟩ ?_
          exact h
        · replace h := h.2 c
          refine e_aload_n (pc' := 172) (dAt D82 93 rfl) rfl rfl ?_
          refine e_iload (pc' := 174) (dAt D82 94 rfl) rfl rfl ?_
          refine e_iload (pc' := 176) (dAt D82 95 rfl) rfl rfl ?_
          refine e_iload (pc' := 178) (dAt D82 96 rfl) rfl rfl ?_
          exact e_call2 h (dAt D82 97 rfl) (hi0 rfl) rfl G85 (by decide) rfl (Nat.le_of_ble_eq_true rfl) (kV hOx0 rfl rfl) rfl rfl
-- PlaceNets$Flows.settle.(LPlaceNets$Net;I)V, from 181
set_option maxRecDepth 20000 in
theorem bk82_181 {d b : Nat} {Q : Option Value → mMem → Prop} {m : mMem} {x0 : Nat} {x1 : Nat} {x2 : Int32} {x3 : Int32} {x4 : Int32} {x5 : Int32} {x6 : Int32} {x7 : Int32} (hT : mWT m) (hOx0 : m.1 x0 = some (.inr 4) ∧ x0 ≠ 0) (hOx1 : m.1 x1 = some (.inr 2) ∧ x1 ≠ 0)
    (h : mEv d 87 [.ref x0, .ref x1, .int x5] m (fun r m' => mEs d 82 b g82 (189, [some (.ref x0), some (.ref x1), some (.int x2), some (.int x3), some (.int x4), some (.int x5), some (.int x6), some (.int x7)], r.toList ++ [.ref x0], m') Q)) :
    mEs d 82 b g82 (181, [some (.ref x0), some (.ref x1), some (.int x2), some (.int x3), some (.int x4), some (.int x5), some (.int x6), some (.int x7)], [], m) Q := by
  refine e_aload_n (pc' := 182) (dAt D82 98 rfl) rfl rfl ?_
  refine e_aload_n (pc' := 183) (dAt D82 99 rfl) rfl rfl ?_
  refine e_aload_n (pc' := 184) (dAt D82 100 rfl) rfl rfl ?_
  refine e_iload (pc' := 186) (dAt D82 101 rfl) rfl rfl ?_
  exact e_call2 h (dAt D82 102 rfl) (hi0 rfl) rfl G87 (by decide) rfl (Nat.le_of_ble_eq_true rfl) (kV hOx0 rfl rfl) rfl rfl
-- PlaceNets$Flows.settle.(LPlaceNets$Net;I)V, from 189
set_option maxRecDepth 20000 in
theorem bk82_189 {d b : Nat} {Q : Option Value → mMem → Prop} {m : mMem} {x0 : Nat} {x1 : Nat} {x2 : Int32} {x3 : Int32} {x4 : Int32} {x5 : Int32} {x6 : Int32} {x7 : Int32} {y0 : Nat} {y1 : Int32} (hT : mWT m) (hOx0 : m.1 x0 = some (.inr 4) ∧ x0 ≠ 0) (hOx1 : m.1 x1 = some (.inr 2) ∧ x1 ≠ 0) (hOy0 : m.1 y0 = some (.inr 4) ∧ y0 ≠ 0)
    (h : (y1 = 0 ∨ y1 = 1) ∧ (∀ (m_1 : mMem), m_1 = (mSetF m y0 2 (.int y1)) → ∀ (v_3 : Int32), v_3 = (x5 + 1) → ∀ (v_4 : Int32), v_4 = (x7 + 1) → mEs d 82 b g82 (135, [some (.ref x0), some (.ref x1), some (.int x2), some (.int x3), some (.int x4), some (.int v_3), some (.int x6), some (.int v_4)], [], m_1) Q)) :
    mEs d 82 b g82 (189, [some (.ref x0), some (.ref x1), some (.int x2), some (.int x3), some (.int x4), some (.int x5), some (.int x6), some (.int x7)], [.int y1, .ref y0], m) Q := by
  obtain ⟨f1, h⟩ := h
  replace h := h _ rfl
  refine e_putfield (pc' := 192) (dAt D82 103 rfl) rfl rfl hOy0 (nb01 f1) (fb01 f1) (fun e => by cases e) ?_
  refine wtF hT hOy0 (by decide) (fun hT_2 => ?_)
  replace h := h _ rfl
  refine e_iinc (pc' := 195) (dAt D82 104 rfl) rfl rfl (Nat.le_of_ble_eq_true rfl) (congrArg (_ + ·) (show Int32.ofInt (1) = (1 : Int32) by decide)) rfl ?_
  replace h := h _ rfl
  refine e_iinc (pc' := 198) (dAt D82 105 rfl) rfl rfl (Nat.le_of_ble_eq_true rfl) (congrArg (_ + ·) (show Int32.ofInt (1) = (1 : Int32) by decide)) rfl ?_
  refine e_goto (t := 135) (dAt D82 106 rfl) ⟨by decide, by decide⟩ ?_
  exact h
-- PlaceNets$Flows.settle.(LPlaceNets$Net;I)V, from 237
set_option maxRecDepth 20000 in
theorem bk82_237 {d b : Nat} {Q : Option Value → mMem → Prop} {m : mMem} {x0 : Nat} {x1 : Nat} {x2 : Int32} {x3 : Int32} {x4 : Int32} {x5 : Int32} {x6 : Nat} {lx6 : Nat} {x7 : Option Value} (hT : mWT m) (hOx0 : m.1 x0 = some (.inr 4) ∧ x0 ≠ 0) (hOx1 : m.1 x1 = some (.inr 2) ∧ x1 ≠ 0) (hAx6 : m.1 x6 = some (.inl (.int, lx6)) ∧ x6 ≠ 0)
    (h : Q none m) :
    mEs d 82 b g82 (237, [some (.ref x0), some (.ref x1), some (.int x2), some (.int x3), some (.int x4), some (.int x5), some (.ref x6), x7], [], m) Q := by
  exact e_return (dAt D82 124 rfl) rfl h
-- PlaceNets$Flows.changeOf.(LPlaceNets$Net;[III)J, from 0
set_option maxRecDepth 20000 in
theorem bk83_0 {d b : Nat} {Q : Option Value → mMem → Prop} {m : mMem} {x0 : Nat} {x1 : Nat} {x2 : Nat} {lx2 : Nat} {x3 : Int32} {x4 : Int32} {x5 : Option Value} {x6 : Option Value} {x7 : Option Value} {x8 : Option Value} {x9 : Option Value} (hT : mWT m) (hOx0 : m.1 x0 = some (.inr 4) ∧ x0 ≠ 0) (hOx1 : m.1 x1 = some (.inr 2) ∧ x1 ≠ 0) (hAx2 : m.1 x2 = some (.inl (.int, lx2)) ∧ x2 ≠ 0)
    (h : mEs d 83 b g83 (6, [some (.ref x0), some (.ref x1), some (.ref x2), some (.int x3), some (.int x4), some (.long 0), none, some (.int 0), x8, x9], [], m) Q) :
    mEs d 83 b g83 (0, [some (.ref x0), some (.ref x1), some (.ref x2), some (.int x3), some (.int x4), x5, x6, x7, x8, x9], [], m) Q := by
  refine e_lconst (pc' := 1) (v := 0) (dAt D83 0 rfl) rfl (by decide) ?_
  refine e_lstore (pc' := 3) (dAt D83 1 rfl) rfl (Nat.le_of_ble_eq_true rfl) rfl ?_
  refine e_iconst (pc' := 4) (v := 0) (dAt D83 2 rfl) rfl (by decide) ?_
  refine e_istore (pc' := 6) (dAt D83 3 rfl) rfl (Nat.le_of_ble_eq_true rfl) rfl ?_
  exact h
-- PlaceNets$Flows.changeOf.(LPlaceNets$Net;[III)J, from 6
set_option maxRecDepth 20000 in
theorem bk83_6 {d b : Nat} {Q : Option Value → mMem → Prop} {m : mMem} {x0 : Nat} {x1 : Nat} {x2 : Nat} {lx2 : Nat} {x3 : Int32} {x4 : Int32} {x5 : Int64} {x7 : Int32} {x8 : Option Value} {x9 : Option Value} (hT : mWT m) (hOx0 : m.1 x0 = some (.inr 4) ∧ x0 ≠ 0) (hOx1 : m.1 x1 = some (.inr 2) ∧ x1 ≠ 0) (hAx2 : m.1 x2 = some (.inl (.int, lx2)) ∧ x2 ≠ 0)
    (h : ((((iF m x0 11) ≤ x7) → (Q (some (.long x5)) m)) ∧ (¬ ((iF m x0 11) ≤ x7) → ((mIn ((x3 * 10) + x7) lx2 = true) ∧ (∀ (v_1 : Int64), v_1 = ((m.2.2.1 x2 ((x3 * 10) + x7).toNatClampNeg).toInt64) → ((((iF m x0 3) = 0) → (mEv d 28 [.ref x1, .int x7, .int x4] m (fun r m' => mEs d 83 b g83 (57, [some (.ref x0), some (.ref x1), some (.ref x2), some (.int x3), some (.int x4), some (.long x5), none, some (.int x7), some (.long v_1), none], r.toList ++ [.long v_1, .long x5], m') Q))) ∧ (¬ ((iF m x0 3) = 0) → (mEv d 28 [.ref x1, .int x4, .int x7] m (fun r m' => mEs d 83 b g83 (46, [some (.ref x0), some (.ref x1), some (.ref x2), some (.int x3), some (.int x4), some (.long x5), none, some (.int x7), some (.long v_1), none], r.toList ++ [.long v_1, .long x5], m') Q))))))))) :
    mEs d 83 b g83 (6, [some (.ref x0), some (.ref x1), some (.ref x2), some (.int x3), some (.int x4), some (.long x5), none, some (.int x7), x8, x9], [], m) Q := by
  refine e_iload (pc' := 8) (dAt D83 4 rfl) rfl rfl ?_
  refine e_aload_n (pc' := 9) (dAt D83 5 rfl) rfl rfl ?_
  refine e_getfield (pc' := 12) (dAt D83 6 rfl) rfl rfl hOx0 (hT.int hOx0 11 (by decide)) ?_
  refine e_icmp_ge (t := 68) (pc' := 15) (dAt D83 7 rfl) ⟨by decide, by decide⟩ rfl (fun c => ?_) (fun c => ?_)
  · replace h := h.1 c
    refine e_lload (pc' := 70) (dAt D83 37 rfl) rfl rfl ?_
    exact e_lreturn (dAt D83 38 rfl) rfl h
  · replace h := h.2 c
    refine e_aload_n (pc' := 16) (dAt D83 8 rfl) rfl rfl ?_
    refine e_iload_n (pc' := 17) (dAt D83 9 rfl) rfl rfl ?_
    refine e_bipush (pc' := 19) (v := 10) (dAt D83 10 rfl) rfl (by decide) ?_
    refine e_imul (pc' := 20) (dAt D83 11 rfl) rfl ?_
    refine e_iload (pc' := 22) (dAt D83 12 rfl) rfl rfl ?_
    refine e_iadd (pc' := 23) (dAt D83 13 rfl) rfl ?_
    obtain ⟨f1, h⟩ := h
    refine e_iaload (pc' := 24) (dAt D83 14 rfl) rfl hAx2.1 (Or.inl hAx2.2) f1 rfl ?_
    refine e_i2l (pc' := 25) (dAt D83 15 rfl) rfl ?_
    replace h := h _ rfl
    refine e_lstore (pc' := 27) (dAt D83 16 rfl) rfl (Nat.le_of_ble_eq_true rfl) rfl ?_
    refine e_lload (pc' := 29) (dAt D83 17 rfl) rfl rfl ?_
    refine e_lload (pc' := 31) (dAt D83 18 rfl) rfl rfl ?_
    refine e_aload_n (pc' := 32) (dAt D83 19 rfl) rfl rfl ?_
    refine e_getfield (pc' := 35) (dAt D83 20 rfl) rfl rfl hOx0 (hT.int hOx0 3 (by decide)) ?_
    refine e_if_eq (t := 49) (pc' := 38) (dAt D83 21 rfl) ⟨by decide, by decide⟩ rfl (fun c => ?_) (fun c => ?_)
    · replace h := h.1 c
      refine e_aload_n (pc' := 50) (dAt D83 27 rfl) rfl rfl ?_
      refine e_iload (pc' := 52) (dAt D83 28 rfl) rfl rfl ?_
      refine e_iload (pc' := 54) (dAt D83 29 rfl) rfl rfl ?_
      exact e_call2 h (dAt D83 30 rfl) (hi0 rfl) rfl G28 (by decide) rfl (Nat.le_of_ble_eq_true rfl) (kV hOx1 rfl rfl) rfl rfl
    · replace h := h.2 c
      refine e_aload_n (pc' := 39) (dAt D83 22 rfl) rfl rfl ?_
      refine e_iload (pc' := 41) (dAt D83 23 rfl) rfl rfl ?_
      refine e_iload (pc' := 43) (dAt D83 24 rfl) rfl rfl ?_
      exact e_call2 h (dAt D83 25 rfl) (hi0 rfl) rfl G28 (by decide) rfl (Nat.le_of_ble_eq_true rfl) (kV hOx1 rfl rfl) rfl rfl
-- PlaceNets$Flows.changeOf.(LPlaceNets$Net;[III)J, from 46
set_option maxRecDepth 20000 in
theorem bk83_46 {d b : Nat} {Q : Option Value → mMem → Prop} {m : mMem} {x0 : Nat} {x1 : Nat} {x2 : Nat} {lx2 : Nat} {x3 : Int32} {x4 : Int32} {x5 : Int64} {x7 : Int32} {x8 : Int64} {y0 : Int64} {y1 : Int64} {y2 : Int32} (hT : mWT m) (hOx0 : m.1 x0 = some (.inr 4) ∧ x0 ≠ 0) (hOx1 : m.1 x1 = some (.inr 2) ∧ x1 ≠ 0) (hAx2 : m.1 x2 = some (.inl (.int, lx2)) ∧ x2 ≠ 0)
    (h : mEs d 83 b g83 (57, [some (.ref x0), some (.ref x1), some (.ref x2), some (.int x3), some (.int x4), some (.long x5), none, some (.int x7), some (.long x8), none], [.int y2, .long y1, .long y0], m) Q) :
    mEs d 83 b g83 (46, [some (.ref x0), some (.ref x1), some (.ref x2), some (.int x3), some (.int x4), some (.long x5), none, some (.int x7), some (.long x8), none], [.int y2, .long y1, .long y0], m) Q := by
  refine e_goto (t := 57) (dAt D83 26 rfl) ⟨by decide, by decide⟩ ?_
  exact h
-- PlaceNets$Flows.changeOf.(LPlaceNets$Net;[III)J, from 57
set_option maxRecDepth 20000 in
theorem bk83_57 {d b : Nat} {Q : Option Value → mMem → Prop} {m : mMem} {x0 : Nat} {x1 : Nat} {x2 : Nat} {lx2 : Nat} {x3 : Int32} {x4 : Int32} {x5 : Int64} {x7 : Int32} {x8 : Int64} {y0 : Int64} {y1 : Int64} {y2 : Int32} (hT : mWT m) (hOx0 : m.1 x0 = some (.inr 4) ∧ x0 ≠ 0) (hOx1 : m.1 x1 = some (.inr 2) ∧ x1 ≠ 0) (hAx2 : m.1 x2 = some (.inl (.int, lx2)) ∧ x2 ≠ 0)
    (h : ∀ (v_1 : Int64), v_1 = (y0 + (y1 * y2.toInt64)) → ∀ (v_2 : Int32), v_2 = (x7 + 1) → mEs d 83 b g83 (6, [some (.ref x0), some (.ref x1), some (.ref x2), some (.int x3), some (.int x4), some (.long v_1), none, some (.int v_2), some (.long x8), none], [], m) Q) :
    mEs d 83 b g83 (57, [some (.ref x0), some (.ref x1), some (.ref x2), some (.int x3), some (.int x4), some (.long x5), none, some (.int x7), some (.long x8), none], [.int y2, .long y1, .long y0], m) Q := by
  refine e_i2l (pc' := 58) (dAt D83 31 rfl) rfl ?_
  refine e_lmul (pc' := 59) (dAt D83 32 rfl) rfl ?_
  refine e_ladd (pc' := 60) (dAt D83 33 rfl) rfl ?_
  replace h := h _ rfl
  refine e_lstore (pc' := 62) (dAt D83 34 rfl) rfl (Nat.le_of_ble_eq_true rfl) rfl ?_
  replace h := h _ rfl
  refine e_iinc (pc' := 65) (dAt D83 35 rfl) rfl rfl (Nat.le_of_ble_eq_true rfl) (congrArg (_ + ·) (show Int32.ofInt (1) = (1 : Int32) by decide)) rfl ?_
  refine e_goto (t := 6) (dAt D83 36 rfl) ⟨by decide, by decide⟩ ?_
  exact h
-- PlaceNets$Flows.copyUnchanged.()I, from 0
set_option maxRecDepth 20000 in
theorem bk84_0 {d b : Nat} {Q : Option Value → mMem → Prop} {m : mMem} {x0 : Nat} {x1 : Option Value} {x2 : Option Value} (hT : mWT m) (hOx0 : m.1 x0 = some (.inr 4) ∧ x0 ≠ 0)
    (h : mEs d 84 b g84 (4, [some (.ref x0), some (.int 0), some (.int 0)], [], m) Q) :
    mEs d 84 b g84 (0, [some (.ref x0), x1, x2], [], m) Q := by
  refine e_iconst (pc' := 1) (v := 0) (dAt D84 0 rfl) rfl (by decide) ?_
  refine e_istore_n (pc' := 2) (dAt D84 1 rfl) rfl (Nat.le_of_ble_eq_true rfl) rfl ?_
  refine e_iconst (pc' := 3) (v := 0) (dAt D84 2 rfl) rfl (by decide) ?_
  refine e_istore_n (pc' := 4) (dAt D84 3 rfl) rfl (Nat.le_of_ble_eq_true rfl) rfl ?_
  exact h
-- PlaceNets$Flows.copyUnchanged.()I, from 4
set_option maxRecDepth 20000 in
theorem bk84_4 {d b : Nat} {Q : Option Value → mMem → Prop} {m : mMem} {x0 : Nat} {x1 : Int32} {x2 : Int32} (hT : mWT m) (hOx0 : m.1 x0 = some (.inr 4) ∧ x0 ≠ 0) (hd1 : 1 ≤ d)
    (h : ((((iF m x0 1) ≤ x2) → (Q (some (.int x1)) m)) ∧ (¬ ((iF m x0 1) ≤ x2) → ((mIn x2 300 = true) ∧ (((¬ (m.2.2.1 (64 * x0 + 3) x2.toNatClampNeg) = 0) → (∀ (v_1 : Int32), v_1 = (x2 + 1) → mEs d 84 b g84 (4, [some (.ref x0), some (.int x1), some (.int v_1)], [], m) Q)) ∧ (¬ (¬ (m.2.2.1 (64 * x0 + 3) x2.toNatClampNeg) = 0) → (∃ (r_2 l_3 : Nat), (m.2.1 x0 4 = .ref r_2) ∧ ((m.1 r_2 = some (.inl (.int, l_3)) ∧ r_2 ≠ 0) ∧ (∃ (r_5 l_6 : Nat), (m.2.1 x0 5 = .ref r_5) ∧ ((m.1 r_5 = some (.inl (.int, l_6)) ∧ r_5 ≠ 0) ∧ ((¬ (x2 * 10) < 0 ∧ ¬ (x1 * 10) < 0 ∧ ¬ (10 : Int32) < 0 ∧ (x2 * 10).toNatClampNeg + (10 : Int32).toNatClampNeg ≤ l_3 ∧ (x1 * 10).toNatClampNeg + (10 : Int32).toNatClampNeg ≤ l_6) ∧ (∀ (m_8 : mMem), m_8 = (mSetI m r_5 (va_cpy (m.2.2.1 r_2) (m.2.2.1 r_5) (x2 * 10).toNatClampNeg (x1 * 10).toNatClampNeg (10 : Int32).toNatClampNeg)) → ∀ (v_10 : Int32), v_10 = (x1 + 1) → ∀ (v_11 : Int32), v_11 = (x2 + 1) → mEs d 84 b g84 (4, [some (.ref x0), some (.int v_10), some (.int v_11)], [], m_8) Q)))))))))))) :
    mEs d 84 b g84 (4, [some (.ref x0), some (.int x1), some (.int x2)], [], m) Q := by
  refine e_iload_n (pc' := 5) (dAt D84 4 rfl) rfl rfl ?_
  refine e_aload_n (pc' := 6) (dAt D84 5 rfl) rfl rfl ?_
  refine e_getfield (pc' := 9) (dAt D84 6 rfl) rfl rfl hOx0 (hT.int hOx0 1 (by decide)) ?_
  refine e_icmp_ge (t := 51) (pc' := 12) (dAt D84 7 rfl) ⟨by decide, by decide⟩ rfl (fun c => ?_) (fun c => ?_)
  · replace h := h.1 c
    refine e_iload_n (pc' := 52) (dAt D84 28 rfl) rfl rfl ?_
    exact e_ireturn (dAt D84 29 rfl) rfl ⟨rfl, fun e => by cases e⟩ h
  · replace h := h.2 c
    refine e_aload_n (pc' := 13) (dAt D84 8 rfl) rfl rfl ?_
    refine e_getfield (pc' := 16) (dAt D84 9 rfl) rfl rfl hOx0 (hT.own hOx0 0 rfl) ?_
    refine e_iload_n (pc' := 17) (dAt D84 10 rfl) rfl rfl ?_
    obtain ⟨f1, h⟩ := h
    refine e_iaload (pc' := 18) (dAt D84 11 rfl) rfl (hT.arr hOx0 0 rfl (by decide)).1 (Or.inl (hT.arr hOx0 0 rfl (by decide)).2) f1 rfl ?_
    refine e_if_ne (t := 45) (pc' := 21) (dAt D84 12 rfl) ⟨by decide, by decide⟩ rfl (fun c => ?_) (fun c => ?_)
    · replace h := h.1 c
      replace h := h _ rfl
      refine e_iinc (pc' := 48) (dAt D84 26 rfl) rfl rfl (Nat.le_of_ble_eq_true rfl) (congrArg (_ + ·) (show Int32.ofInt (1) = (1 : Int32) by decide)) rfl ?_
      refine e_goto (t := 4) (dAt D84 27 rfl) ⟨by decide, by decide⟩ ?_
      exact h
    · replace h := h.2 c
      refine e_aload_n (pc' := 22) (dAt D84 13 rfl) rfl rfl ?_
      obtain ⟨r_2, l_3, f1, f_4, h⟩ := h
      refine e_getfield (pc' := 25) (dAt D84 14 rfl) rfl rfl hOx0 f1 ?_
      refine e_iload_n (pc' := 26) (dAt D84 15 rfl) rfl rfl ?_
      refine e_bipush (pc' := 28) (v := 10) (dAt D84 16 rfl) rfl (by decide) ?_
      refine e_imul (pc' := 29) (dAt D84 17 rfl) rfl ?_
      refine e_aload_n (pc' := 30) (dAt D84 18 rfl) rfl rfl ?_
      obtain ⟨r_5, l_6, f1, f_7, h⟩ := h
      refine e_getfield (pc' := 33) (dAt D84 19 rfl) rfl rfl hOx0 f1 ?_
      refine e_iload_n (pc' := 34) (dAt D84 20 rfl) rfl rfl ?_
      refine e_bipush (pc' := 36) (v := 10) (dAt D84 21 rfl) rfl (by decide) ?_
      refine e_imul (pc' := 37) (dAt D84 22 rfl) rfl ?_
      refine e_bipush (pc' := 39) (v := 10) (dAt D84 23 rfl) rfl (by decide) ?_
      obtain ⟨f1, h⟩ := h
      replace h := h _ rfl
      refine e_copy (pc' := 42) (dAt D84 24 rfl) rfl rfl f_4 f_7 f1 ⟨hd1, Nat.le_of_ble_eq_true rfl⟩ ?_
      refine wtI hT (fun hT_9 => ?_)
      replace h := h _ rfl
      refine e_iinc (pc' := 45) (dAt D84 25 rfl) rfl rfl (Nat.le_of_ble_eq_true rfl) (congrArg (_ + ·) (show Int32.ofInt (1) = (1 : Int32) by decide)) rfl ?_
      replace h := h _ rfl
      refine e_iinc (pc' := 48) (dAt D84 26 rfl) rfl rfl (Nat.le_of_ble_eq_true rfl) (congrArg (_ + ·) (show Int32.ofInt (1) = (1 : Int32) by decide)) rfl ?_
      refine e_goto (t := 4) (dAt D84 27 rfl) ⟨by decide, by decide⟩ ?_
      exact h
-- PlaceNets$Flows.join.(III)V, from 0
set_option maxRecDepth 20000 in
theorem bk85_0 {d b : Nat} {Q : Option Value → mMem → Prop} {m : mMem} {x0 : Nat} {x1 : Int32} {x2 : Int32} {x3 : Int32} {x4 : Option Value} {x5 : Option Value} {x6 : Option Value} {x7 : Option Value} {x8 : Option Value} (hT : mWT m) (hOx0 : m.1 x0 = some (.inr 4) ∧ x0 ≠ 0)
    (h : mEs d 85 b g85 (6, [some (.ref x0), some (.int x1), some (.int x2), some (.int x3), some (.long 0), none, some (.int 0), x7, x8], [], m) Q) :
    mEs d 85 b g85 (0, [some (.ref x0), some (.int x1), some (.int x2), some (.int x3), x4, x5, x6, x7, x8], [], m) Q := by
  refine e_lconst (pc' := 1) (v := 0) (dAt D85 0 rfl) rfl (by decide) ?_
  refine e_lstore (pc' := 3) (dAt D85 1 rfl) rfl (Nat.le_of_ble_eq_true rfl) rfl ?_
  refine e_iconst (pc' := 4) (v := 0) (dAt D85 2 rfl) rfl (by decide) ?_
  refine e_istore (pc' := 6) (dAt D85 3 rfl) rfl (Nat.le_of_ble_eq_true rfl) rfl ?_
  exact h
-- PlaceNets$Flows.join.(III)V, from 6
set_option maxRecDepth 20000 in
theorem bk85_6 {d b : Nat} {Q : Option Value → mMem → Prop} {m : mMem} {x0 : Nat} {x1 : Int32} {x2 : Int32} {x3 : Int32} {x4 : Int64} {x6 : Int32} {x7 : Option Value} {x8 : Option Value} (hT : mWT m) (hOx0 : m.1 x0 = some (.inr 4) ∧ x0 ≠ 0)
    (h : ((((iF m x0 11) ≤ x6) → (mEs d 85 b g85 (89, [some (.ref x0), some (.int x1), some (.int x2), some (.int x3), some (.long x4), none, some (.int 0), x7, x8], [], m) Q)) ∧ (¬ ((iF m x0 11) ≤ x6) → (∃ (r_1 l_2 : Nat), (m.2.1 x0 4 = .ref r_1) ∧ ((m.1 r_1 = some (.inl (.int, l_2)) ∧ r_1 ≠ 0) ∧ ((mIn ((x1 * 10) + x6) l_2 = true) ∧ ((mIn x2 300 = true) ∧ (∃ (r_4 l_5 : Nat), (m.2.1 x0 4 = .ref r_4) ∧ ((m.1 r_4 = some (.inl (.int, l_5)) ∧ r_4 ≠ 0) ∧ ((mIn ((x2 * 10) + x6) l_5 = true) ∧ ((mIn x1 300 = true) ∧ ((mIn x6 10 = true) ∧ (∀ (m_7 : mMem), m_7 = (mSetJ m (64 * x0 + 7) (vp_updL (m.2.2.2.1 (64 * x0 + 7)) x6.toNatClampNeg ((((m.2.2.1 r_1 ((x1 * 10) + x6).toNatClampNeg).toInt64) * ((-(m.2.2.1 (64 * x0 + 3) x2.toNatClampNeg)).toInt64)) + (((m.2.2.1 r_4 ((x2 * 10) + x6).toNatClampNeg).toInt64) * ((m.2.2.1 (64 * x0 + 3) x1.toNatClampNeg).toInt64))))) → (mIn x6 10 = true) ∧ (mEv d 86 [.long x4, .long (m_7.2.2.2.1 (64 * x0 + 7) x6.toNatClampNeg)] m_7 (fun r m' => mEs d 85 b g85 (78, [some (.ref x0), some (.int x1), some (.int x2), some (.int x3), some (.long x4), none, some (.int x6), x7, x8], r.toList ++ [], m') Q))))))))))))))) :
    mEs d 85 b g85 (6, [some (.ref x0), some (.int x1), some (.int x2), some (.int x3), some (.long x4), none, some (.int x6), x7, x8], [], m) Q := by
  refine e_iload (pc' := 8) (dAt D85 4 rfl) rfl rfl ?_
  refine e_aload_n (pc' := 9) (dAt D85 5 rfl) rfl rfl ?_
  refine e_getfield (pc' := 12) (dAt D85 6 rfl) rfl rfl hOx0 (hT.int hOx0 11 (by decide)) ?_
  refine e_icmp_ge (t := 86) (pc' := 15) (dAt D85 7 rfl) ⟨by decide, by decide⟩ rfl (fun c => ?_) (fun c => ?_)
  · replace h := h.1 c
    refine e_iconst (pc' := 87) (v := 0) (dAt D85 53 rfl) rfl (by decide) ?_
    refine e_istore (pc' := 89) (dAt D85 54 rfl) rfl (Nat.le_of_ble_eq_true rfl) rfl ?_
    exact h
  · replace h := h.2 c
    refine e_aload_n (pc' := 16) (dAt D85 8 rfl) rfl rfl ?_
    refine e_getfield (pc' := 19) (dAt D85 9 rfl) rfl rfl hOx0 (hT.own hOx0 4 rfl) ?_
    refine e_iload (pc' := 21) (dAt D85 10 rfl) rfl rfl ?_
    refine e_aload_n (pc' := 22) (dAt D85 11 rfl) rfl rfl ?_
    obtain ⟨r_1, l_2, f1, f_3, h⟩ := h
    refine e_getfield (pc' := 25) (dAt D85 12 rfl) rfl rfl hOx0 f1 ?_
    refine e_iload_n (pc' := 26) (dAt D85 13 rfl) rfl rfl ?_
    refine e_bipush (pc' := 28) (v := 10) (dAt D85 14 rfl) rfl (by decide) ?_
    refine e_imul (pc' := 29) (dAt D85 15 rfl) rfl ?_
    refine e_iload (pc' := 31) (dAt D85 16 rfl) rfl rfl ?_
    refine e_iadd (pc' := 32) (dAt D85 17 rfl) rfl ?_
    obtain ⟨f1, h⟩ := h
    refine e_iaload (pc' := 33) (dAt D85 18 rfl) rfl f_3.1 (Or.inl f_3.2) f1 rfl ?_
    refine e_i2l (pc' := 34) (dAt D85 19 rfl) rfl ?_
    refine e_aload_n (pc' := 35) (dAt D85 20 rfl) rfl rfl ?_
    refine e_getfield (pc' := 38) (dAt D85 21 rfl) rfl rfl hOx0 (hT.own hOx0 0 rfl) ?_
    refine e_iload_n (pc' := 39) (dAt D85 22 rfl) rfl rfl ?_
    obtain ⟨f1, h⟩ := h
    refine e_iaload (pc' := 40) (dAt D85 23 rfl) rfl (hT.arr hOx0 0 rfl (by decide)).1 (Or.inl (hT.arr hOx0 0 rfl (by decide)).2) f1 rfl ?_
    refine e_ineg (pc' := 41) (dAt D85 24 rfl) rfl ?_
    refine e_i2l (pc' := 42) (dAt D85 25 rfl) rfl ?_
    refine e_lmul (pc' := 43) (dAt D85 26 rfl) rfl ?_
    refine e_aload_n (pc' := 44) (dAt D85 27 rfl) rfl rfl ?_
    obtain ⟨r_4, l_5, f1, f_6, h⟩ := h
    refine e_getfield (pc' := 47) (dAt D85 28 rfl) rfl rfl hOx0 f1 ?_
    refine e_iload_n (pc' := 48) (dAt D85 29 rfl) rfl rfl ?_
    refine e_bipush (pc' := 50) (v := 10) (dAt D85 30 rfl) rfl (by decide) ?_
    refine e_imul (pc' := 51) (dAt D85 31 rfl) rfl ?_
    refine e_iload (pc' := 53) (dAt D85 32 rfl) rfl rfl ?_
    refine e_iadd (pc' := 54) (dAt D85 33 rfl) rfl ?_
    obtain ⟨f1, h⟩ := h
    refine e_iaload (pc' := 55) (dAt D85 34 rfl) rfl f_6.1 (Or.inl f_6.2) f1 rfl ?_
    refine e_i2l (pc' := 56) (dAt D85 35 rfl) rfl ?_
    refine e_aload_n (pc' := 57) (dAt D85 36 rfl) rfl rfl ?_
    refine e_getfield (pc' := 60) (dAt D85 37 rfl) rfl rfl hOx0 (hT.own hOx0 0 rfl) ?_
    refine e_iload_n (pc' := 61) (dAt D85 38 rfl) rfl rfl ?_
    obtain ⟨f1, h⟩ := h
    refine e_iaload (pc' := 62) (dAt D85 39 rfl) rfl (hT.arr hOx0 0 rfl (by decide)).1 (Or.inl (hT.arr hOx0 0 rfl (by decide)).2) f1 rfl ?_
    refine e_i2l (pc' := 63) (dAt D85 40 rfl) rfl ?_
    refine e_lmul (pc' := 64) (dAt D85 41 rfl) rfl ?_
    refine e_ladd (pc' := 65) (dAt D85 42 rfl) rfl ?_
    obtain ⟨f1, h⟩ := h
    replace h := h _ rfl
    refine e_lastore (pc' := 66) (dAt D85 43 rfl) rfl (hT.arr hOx0 4 rfl (by decide)).1 (hT.arr hOx0 4 rfl (by decide)).2 f1 ?_
    refine wtJ hT (fun hT_8 => ?_)
    refine e_lload (pc' := 68) (dAt D85 44 rfl) rfl rfl ?_
    refine e_aload_n (pc' := 69) (dAt D85 45 rfl) rfl rfl ?_
    refine e_getfield (pc' := 72) (dAt D85 46 rfl) rfl rfl hOx0 (hT_8.own hOx0 4 rfl) ?_
    refine e_iload (pc' := 74) (dAt D85 47 rfl) rfl rfl ?_
    obtain ⟨f1, h⟩ := h
    refine e_laload (pc' := 75) (dAt D85 48 rfl) rfl (hT_8.arr hOx0 4 rfl (by decide)).1 (hT_8.arr hOx0 4 rfl (by decide)).2 f1 rfl ?_
    exact e_call2 h (dAt D85 49 rfl) (hi2 rfl) rfl G86 (by decide) rfl (Nat.le_of_ble_eq_true rfl) rfl rfl rfl
-- PlaceNets$Flows.join.(III)V, from 78
set_option maxRecDepth 20000 in
theorem bk85_78 {d b : Nat} {Q : Option Value → mMem → Prop} {m : mMem} {x0 : Nat} {x1 : Int32} {x2 : Int32} {x3 : Int32} {x4 : Int64} {x6 : Int32} {x7 : Option Value} {x8 : Option Value} {y0 : Int64} (hT : mWT m) (hOx0 : m.1 x0 = some (.inr 4) ∧ x0 ≠ 0)
    (h : ∀ (v_1 : Int32), v_1 = (x6 + 1) → mEs d 85 b g85 (6, [some (.ref x0), some (.int x1), some (.int x2), some (.int x3), some (.long y0), none, some (.int v_1), x7, x8], [], m) Q) :
    mEs d 85 b g85 (78, [some (.ref x0), some (.int x1), some (.int x2), some (.int x3), some (.long x4), none, some (.int x6), x7, x8], [.long y0], m) Q := by
  refine e_lstore (pc' := 80) (dAt D85 50 rfl) rfl (Nat.le_of_ble_eq_true rfl) rfl ?_
  replace h := h _ rfl
  refine e_iinc (pc' := 83) (dAt D85 51 rfl) rfl rfl (Nat.le_of_ble_eq_true rfl) (congrArg (_ + ·) (show Int32.ofInt (1) = (1 : Int32) by decide)) rfl ?_
  refine e_goto (t := 6) (dAt D85 52 rfl) ⟨by decide, by decide⟩ ?_
  exact h
-- PlaceNets$Flows.join.(III)V, from 89
set_option maxRecDepth 20000 in
theorem bk85_89 {d b : Nat} {Q : Option Value → mMem → Prop} {m : mMem} {x0 : Nat} {x1 : Int32} {x2 : Int32} {x3 : Int32} {x4 : Int64} {x6 : Int32} {x7 : Option Value} {x8 : Option Value} (hT : mWT m) (hOx0 : m.1 x0 = some (.inr 4) ∧ x0 ≠ 0) (hd1 : 1 ≤ d)
    (h : ((((iF m x0 11) ≤ x6) → (Q none m)) ∧ (¬ ((iF m x0 11) ≤ x6) → ((((lg_cmp x4 1) ≤ 0) → ((mIn x6 10 = true) ∧ (∀ (v_1 : Int64), v_1 = (m.2.2.2.1 (64 * x0 + 7) x6.toNatClampNeg) → ∃ (r_2 l_3 : Nat), (m.2.1 x0 5 = .ref r_2) ∧ ((m.1 r_2 = some (.inl (.int, l_3)) ∧ r_2 ≠ 0) ∧ ((mIn ((x3 * 10) + x6) l_3 = true) ∧ (∀ (m_5 : mMem), m_5 = (mSetI m r_2 (upd (m.2.2.1 r_2) ((x3 * 10) + x6).toNatClampNeg ((if 1000000001 < v_1 then 1000000001 else v_1).toInt32))) → ∀ (v_7 : Int32), v_7 = (x6 + 1) → mEs d 85 b g85 (89, [some (.ref x0), some (.int x1), some (.int x2), some (.int x3), some (.long x4), none, some (.int v_7), some (.long v_1), none], [], m_5) Q)))))) ∧ (¬ ((lg_cmp x4 1) ≤ 0) → ((mIn x6 10 = true) ∧ ((x4 ≠ 0) ∧ (∀ (v_8 : Int64), v_8 = ((m.2.2.2.1 (64 * x0 + 7) x6.toNatClampNeg) / x4) → ∃ (r_9 l_10 : Nat), (m.2.1 x0 5 = .ref r_9) ∧ ((m.1 r_9 = some (.inl (.int, l_10)) ∧ r_9 ≠ 0) ∧ ((mIn ((x3 * 10) + x6) l_10 = true) ∧ (∀ (m_12 : mMem), m_12 = (mSetI m r_9 (upd (m.2.2.1 r_9) ((x3 * 10) + x6).toNatClampNeg ((if 1000000001 < v_8 then 1000000001 else v_8).toInt32))) → ∀ (v_14 : Int32), v_14 = (x6 + 1) → mEs d 85 b g85 (89, [some (.ref x0), some (.int x1), some (.int x2), some (.int x3), some (.long x4), none, some (.int v_14), some (.long v_8), none], [], m_12) Q))))))))))) :
    mEs d 85 b g85 (89, [some (.ref x0), some (.int x1), some (.int x2), some (.int x3), some (.long x4), none, some (.int x6), x7, x8], [], m) Q := by
  refine e_iload (pc' := 91) (dAt D85 55 rfl) rfl rfl ?_
  refine e_aload_n (pc' := 92) (dAt D85 56 rfl) rfl rfl ?_
  refine e_getfield (pc' := 95) (dAt D85 57 rfl) rfl rfl hOx0 (hT.int hOx0 11 (by decide)) ?_
  refine e_icmp_ge (t := 154) (pc' := 98) (dAt D85 58 rfl) ⟨by decide, by decide⟩ rfl (fun c => ?_) (fun c => ?_)
  · replace h := h.1 c
    exact e_return (dAt D85 89 rfl) rfl h
  · replace h := h.2 c
    refine e_lload (pc' := 100) (dAt D85 59 rfl) rfl rfl ?_
    refine e_lconst (pc' := 101) (v := 1) (dAt D85 60 rfl) rfl (by decide) ?_
    refine e_lcmp (pc' := 102) (dAt D85 61 rfl) rfl ?_
    refine e_if_le (t := 118) (pc' := 105) (dAt D85 62 rfl) ⟨by decide, by decide⟩ rfl (fun c => ?_) (fun c => ?_)
    · replace h := h.1 c
      refine e_aload_n (pc' := 119) (dAt D85 70 rfl) rfl rfl ?_
      refine e_getfield (pc' := 122) (dAt D85 71 rfl) rfl rfl hOx0 (hT.own hOx0 4 rfl) ?_
      refine e_iload (pc' := 124) (dAt D85 72 rfl) rfl rfl ?_
      obtain ⟨f1, h⟩ := h
      refine e_laload (pc' := 125) (dAt D85 73 rfl) rfl (hT.arr hOx0 4 rfl (by decide)).1 (hT.arr hOx0 4 rfl (by decide)).2 f1 rfl ?_
      replace h := h _ rfl
      refine e_lstore (pc' := 127) (dAt D85 74 rfl) rfl (Nat.le_of_ble_eq_true rfl) rfl ?_
      refine e_aload_n (pc' := 128) (dAt D85 75 rfl) rfl rfl ?_
      obtain ⟨r_2, l_3, f1, f_4, h⟩ := h
      refine e_getfield (pc' := 131) (dAt D85 76 rfl) rfl rfl hOx0 f1 ?_
      refine e_iload_n (pc' := 132) (dAt D85 77 rfl) rfl rfl ?_
      refine e_bipush (pc' := 134) (v := 10) (dAt D85 78 rfl) rfl (by decide) ?_
      refine e_imul (pc' := 135) (dAt D85 79 rfl) rfl ?_
      refine e_iload (pc' := 137) (dAt D85 80 rfl) rfl rfl ?_
      refine e_iadd (pc' := 138) (dAt D85 81 rfl) rfl ?_
      refine e_lload (pc' := 140) (dAt D85 82 rfl) rfl rfl ?_
      refine e_ldc2_w (pc' := 143) (dAt D85 83 rfl) rfl rfl ?_
      refine e_minL (pc' := 146) (dAt D85 84 rfl) rfl rfl ⟨hd1, Nat.le_of_ble_eq_true rfl⟩ ?_
      refine e_l2i (pc' := 147) (dAt D85 85 rfl) rfl ?_
      obtain ⟨f1, h⟩ := h
      replace h := h _ rfl
      refine e_iastore (pc' := 148) (dAt D85 86 rfl) rfl f_4.1 f_4.2 f1 (nar_i _) ?_
      refine wtI hT (fun hT_6 => ?_)
      replace h := h _ rfl
      refine e_iinc (pc' := 151) (dAt D85 87 rfl) rfl rfl (Nat.le_of_ble_eq_true rfl) (congrArg (_ + ·) (show Int32.ofInt (1) = (1 : Int32) by decide)) rfl ?_
      refine e_goto (t := 89) (dAt D85 88 rfl) ⟨by decide, by decide⟩ ?_
      exact h
    · replace h := h.2 c
      refine e_aload_n (pc' := 106) (dAt D85 63 rfl) rfl rfl ?_
      refine e_getfield (pc' := 109) (dAt D85 64 rfl) rfl rfl hOx0 (hT.own hOx0 4 rfl) ?_
      refine e_iload (pc' := 111) (dAt D85 65 rfl) rfl rfl ?_
      obtain ⟨f1, h⟩ := h
      refine e_laload (pc' := 112) (dAt D85 66 rfl) rfl (hT.arr hOx0 4 rfl (by decide)).1 (hT.arr hOx0 4 rfl (by decide)).2 f1 rfl ?_
      refine e_lload (pc' := 114) (dAt D85 67 rfl) rfl rfl ?_
      obtain ⟨f1, h⟩ := h
      refine e_ldiv (pc' := 115) (dAt D85 68 rfl) rfl f1 ?_
      refine e_goto (t := 125) (dAt D85 69 rfl) ⟨by decide, by decide⟩ ?_
      replace h := h _ rfl
      refine e_lstore (pc' := 127) (dAt D85 74 rfl) rfl (Nat.le_of_ble_eq_true rfl) rfl ?_
      refine e_aload_n (pc' := 128) (dAt D85 75 rfl) rfl rfl ?_
      obtain ⟨r_9, l_10, f1, f_11, h⟩ := h
      refine e_getfield (pc' := 131) (dAt D85 76 rfl) rfl rfl hOx0 f1 ?_
      refine e_iload_n (pc' := 132) (dAt D85 77 rfl) rfl rfl ?_
      refine e_bipush (pc' := 134) (v := 10) (dAt D85 78 rfl) rfl (by decide) ?_
      refine e_imul (pc' := 135) (dAt D85 79 rfl) rfl ?_
      refine e_iload (pc' := 137) (dAt D85 80 rfl) rfl rfl ?_
      refine e_iadd (pc' := 138) (dAt D85 81 rfl) rfl ?_
      refine e_lload (pc' := 140) (dAt D85 82 rfl) rfl rfl ?_
      refine e_ldc2_w (pc' := 143) (dAt D85 83 rfl) rfl rfl ?_
      refine e_minL (pc' := 146) (dAt D85 84 rfl) rfl rfl ⟨hd1, Nat.le_of_ble_eq_true rfl⟩ ?_
      refine e_l2i (pc' := 147) (dAt D85 85 rfl) rfl ?_
      obtain ⟨f1, h⟩ := h
      replace h := h _ rfl
      refine e_iastore (pc' := 148) (dAt D85 86 rfl) rfl f_11.1 f_11.2 f1 (nar_i _) ?_
      refine wtI hT (fun hT_13 => ?_)
      replace h := h _ rfl
      refine e_iinc (pc' := 151) (dAt D85 87 rfl) rfl rfl (Nat.le_of_ble_eq_true rfl) (congrArg (_ + ·) (show Int32.ofInt (1) = (1 : Int32) by decide)) rfl ?_
      refine e_goto (t := 89) (dAt D85 88 rfl) ⟨by decide, by decide⟩ ?_
      exact h
-- PlaceNets$Flows.commonDivisor.(JJ)J, from 0
set_option maxRecDepth 20000 in
theorem bk86_0 {d b : Nat} {Q : Option Value → mMem → Prop} {m : mMem} {x0 : Int64} {x2 : Int64} {x4 : Option Value} {x5 : Option Value} {x6 : Option Value} {x7 : Option Value} {x8 : Option Value} {x9 : Option Value} {x10 : Option Value} (hT : mWT m)
    (h : mEs d 86 b g86 (9, [some (.long x0), none, some (.long x2), none, some (.long x0), none, some (.long x2), none, some (.int 0), x9, x10], [], m) Q) :
    mEs d 86 b g86 (0, [some (.long x0), none, some (.long x2), none, x4, x5, x6, x7, x8, x9, x10], [], m) Q := by
  refine e_lload_n (pc' := 1) (dAt D86 0 rfl) rfl rfl ?_
  refine e_lstore (pc' := 3) (dAt D86 1 rfl) rfl (Nat.le_of_ble_eq_true rfl) rfl ?_
  refine e_lload_n (pc' := 4) (dAt D86 2 rfl) rfl rfl ?_
  refine e_lstore (pc' := 6) (dAt D86 3 rfl) rfl (Nat.le_of_ble_eq_true rfl) rfl ?_
  refine e_iconst (pc' := 7) (v := 0) (dAt D86 4 rfl) rfl (by decide) ?_
  refine e_istore (pc' := 9) (dAt D86 5 rfl) rfl (Nat.le_of_ble_eq_true rfl) rfl ?_
  exact h
-- PlaceNets$Flows.commonDivisor.(JJ)J, from 9
set_option maxRecDepth 20000 in
theorem bk86_9 {d b : Nat} {Q : Option Value → mMem → Prop} {m : mMem} {x0 : Int64} {x2 : Int64} {x4 : Int64} {x6 : Int64} {x8 : Int32} {x9 : Option Value} {x10 : Option Value} (hT : mWT m)
    (h : (((100 ≤ x8) → (Q (some (.long x4)) m)) ∧ (¬ (100 ≤ x8) → ((((lg_cmp x6 0) = 0) → (Q (some (.long x4)) m)) ∧ (¬ ((lg_cmp x6 0) = 0) → ((x6 ≠ 0) ∧ (∀ (v_1 : Int64), v_1 = (x4 - x4 / x6 * x6) → ∀ (v_2 : Int32), v_2 = (x8 + 1) → mEs d 86 b g86 (9, [some (.long x0), none, some (.long x2), none, some (.long x6), none, some (.long v_1), none, some (.int v_2), some (.long v_1), none], [], m) Q))))))) :
    mEs d 86 b g86 (9, [some (.long x0), none, some (.long x2), none, some (.long x4), none, some (.long x6), none, some (.int x8), x9, x10], [], m) Q := by
  refine e_iload (pc' := 11) (dAt D86 6 rfl) rfl rfl ?_
  refine e_bipush (pc' := 13) (v := 100) (dAt D86 7 rfl) rfl (by decide) ?_
  refine e_icmp_ge (t := 44) (pc' := 16) (dAt D86 8 rfl) ⟨by decide, by decide⟩ rfl (fun c => ?_) (fun c => ?_)
  · replace h := h.1 c
    refine e_lload (pc' := 46) (dAt D86 23 rfl) rfl rfl ?_
    exact e_lreturn (dAt D86 24 rfl) rfl h
  · replace h := h.2 c
    refine e_lload (pc' := 18) (dAt D86 9 rfl) rfl rfl ?_
    refine e_lconst (pc' := 19) (v := 0) (dAt D86 10 rfl) rfl (by decide) ?_
    refine e_lcmp (pc' := 20) (dAt D86 11 rfl) rfl ?_
    refine e_if_eq (t := 44) (pc' := 23) (dAt D86 12 rfl) ⟨by decide, by decide⟩ rfl (fun c => ?_) (fun c => ?_)
    · replace h := h.1 c
      refine e_lload (pc' := 46) (dAt D86 23 rfl) rfl rfl ?_
      exact e_lreturn (dAt D86 24 rfl) rfl h
    · replace h := h.2 c
      refine e_lload (pc' := 25) (dAt D86 13 rfl) rfl rfl ?_
      refine e_lload (pc' := 27) (dAt D86 14 rfl) rfl rfl ?_
      obtain ⟨f1, h⟩ := h
      refine e_lrem (pc' := 28) (dAt D86 15 rfl) rfl f1 ?_
      replace h := h _ rfl
      refine e_lstore (pc' := 30) (dAt D86 16 rfl) rfl (Nat.le_of_ble_eq_true rfl) rfl ?_
      refine e_lload (pc' := 32) (dAt D86 17 rfl) rfl rfl ?_
      refine e_lstore (pc' := 34) (dAt D86 18 rfl) rfl (Nat.le_of_ble_eq_true rfl) rfl ?_
      refine e_lload (pc' := 36) (dAt D86 19 rfl) rfl rfl ?_
      refine e_lstore (pc' := 38) (dAt D86 20 rfl) rfl (Nat.le_of_ble_eq_true rfl) rfl ?_
      replace h := h _ rfl
      refine e_iinc (pc' := 41) (dAt D86 21 rfl) rfl rfl (Nat.le_of_ble_eq_true rfl) (congrArg (_ + ·) (show Int32.ofInt (1) = (1 : Int32) by decide)) rfl ?_
      refine e_goto (t := 9) (dAt D86 22 rfl) ⟨by decide, by decide⟩ ?_
      exact h
-- PlaceNets$Flows.isTooGreat.(LPlaceNets$Net;I)Z, from 0
set_option maxRecDepth 20000 in
theorem bk87_0 {d b : Nat} {Q : Option Value → mMem → Prop} {m : mMem} {x0 : Nat} {x1 : Nat} {x2 : Int32} {x3 : Option Value} (hT : mWT m) (hOx0 : m.1 x0 = some (.inr 4) ∧ x0 ≠ 0) (hOx1 : m.1 x1 = some (.inr 2) ∧ x1 ≠ 0)
    (h : mEs d 87 b g87 (2, [some (.ref x0), some (.ref x1), some (.int x2), some (.int 0)], [], m) Q) :
    mEs d 87 b g87 (0, [some (.ref x0), some (.ref x1), some (.int x2), x3], [], m) Q := by
  refine e_iconst (pc' := 1) (v := 0) (dAt D87 0 rfl) rfl (by decide) ?_
  refine e_istore_n (pc' := 2) (dAt D87 1 rfl) rfl (Nat.le_of_ble_eq_true rfl) rfl ?_
  exact h
-- PlaceNets$Flows.isTooGreat.(LPlaceNets$Net;I)Z, from 2
set_option maxRecDepth 20000 in
theorem bk87_2 {d b : Nat} {Q : Option Value → mMem → Prop} {m : mMem} {x0 : Nat} {x1 : Nat} {x2 : Int32} {x3 : Int32} (hT : mWT m) (hOx0 : m.1 x0 = some (.inr 4) ∧ x0 ≠ 0) (hOx1 : m.1 x1 = some (.inr 2) ∧ x1 ≠ 0)
    (h : ((((iF m x0 11) ≤ x3) → (mEs d 87 b g87 (36, [some (.ref x0), some (.ref x1), some (.int x2), some (.int 0)], [], m) Q)) ∧ (¬ ((iF m x0 11) ≤ x3) → (∃ (r_1 l_2 : Nat), (m.2.1 x0 5 = .ref r_1) ∧ ((m.1 r_1 = some (.inl (.int, l_2)) ∧ r_1 ≠ 0) ∧ ((mIn ((x2 * 10) + x3) l_2 = true) ∧ ((((m.2.2.1 r_1 ((x2 * 10) + x3).toNatClampNeg) ≤ 1000000000) → (∀ (v_4 : Int32), v_4 = (x3 + 1) → mEs d 87 b g87 (2, [some (.ref x0), some (.ref x1), some (.int x2), some (.int v_4)], [], m) Q)) ∧ (¬ ((m.2.2.1 r_1 ((x2 * 10) + x3).toNatClampNeg) ≤ 1000000000) → (Q (some (.int 1)) m))))))))) :
    mEs d 87 b g87 (2, [some (.ref x0), some (.ref x1), some (.int x2), some (.int x3)], [], m) Q := by
  refine e_iload_n (pc' := 3) (dAt D87 2 rfl) rfl rfl ?_
  refine e_aload_n (pc' := 4) (dAt D87 3 rfl) rfl rfl ?_
  refine e_getfield (pc' := 7) (dAt D87 4 rfl) rfl rfl hOx0 (hT.int hOx0 11 (by decide)) ?_
  refine e_icmp_ge (t := 34) (pc' := 10) (dAt D87 5 rfl) ⟨by decide, by decide⟩ rfl (fun c => ?_) (fun c => ?_)
  · replace h := h.1 c
    refine e_iconst (pc' := 35) (v := 0) (dAt D87 20 rfl) rfl (by decide) ?_
    refine e_istore_n (pc' := 36) (dAt D87 21 rfl) rfl (Nat.le_of_ble_eq_true rfl) rfl ?_
    exact h
  · replace h := h.2 c
    refine e_aload_n (pc' := 11) (dAt D87 6 rfl) rfl rfl ?_
    obtain ⟨r_1, l_2, f1, f_3, h⟩ := h
    refine e_getfield (pc' := 14) (dAt D87 7 rfl) rfl rfl hOx0 f1 ?_
    refine e_iload_n (pc' := 15) (dAt D87 8 rfl) rfl rfl ?_
    refine e_bipush (pc' := 17) (v := 10) (dAt D87 9 rfl) rfl (by decide) ?_
    refine e_imul (pc' := 18) (dAt D87 10 rfl) rfl ?_
    refine e_iload_n (pc' := 19) (dAt D87 11 rfl) rfl rfl ?_
    refine e_iadd (pc' := 20) (dAt D87 12 rfl) rfl ?_
    obtain ⟨f1, h⟩ := h
    refine e_iaload (pc' := 21) (dAt D87 13 rfl) rfl f_3.1 (Or.inl f_3.2) f1 rfl ?_
    refine e_ldc (pc' := 23) (dAt D87 14 rfl) rfl rfl ?_
    refine e_icmp_le (t := 28) (pc' := 26) (dAt D87 15 rfl) ⟨by decide, by decide⟩ rfl (fun c => ?_) (fun c => ?_)
    · replace h := h.1 c
      replace h := h _ rfl
      refine e_iinc (pc' := 31) (dAt D87 18 rfl) rfl rfl (Nat.le_of_ble_eq_true rfl) (congrArg (_ + ·) (show Int32.ofInt (1) = (1 : Int32) by decide)) rfl ?_
      refine e_goto (t := 2) (dAt D87 19 rfl) ⟨by decide, by decide⟩ ?_
      exact h
    · replace h := h.2 c
      refine e_iconst (pc' := 27) (v := 1) (dAt D87 16 rfl) rfl (by decide) ?_
      exact e_ireturn (dAt D87 17 rfl) rfl ⟨rfl, fun e => by cases e⟩ h
-- PlaceNets$Flows.isTooGreat.(LPlaceNets$Net;I)Z, from 36
set_option maxRecDepth 20000 in
theorem bk87_36 {d b : Nat} {Q : Option Value → mMem → Prop} {m : mMem} {x0 : Nat} {x1 : Nat} {x2 : Int32} {x3 : Int32} (hT : mWT m) (hOx0 : m.1 x0 = some (.inr 4) ∧ x0 ≠ 0) (hOx1 : m.1 x1 = some (.inr 2) ∧ x1 ≠ 0)
    (h : ((((iF m x0 12) ≤ x3) → (Q (some (.int 0)) m)) ∧ (¬ ((iF m x0 12) ≤ x3) → (∃ (r_1 l_2 : Nat), (m.2.1 x0 5 = .ref r_1) ∧ ((m.1 r_1 = some (.inl (.int, l_2)) ∧ r_1 ≠ 0) ∧ (mEv d 83 [.ref x0, .ref x1, .ref r_1, .int x2, .int x3] m (fun r m' => mEs d 87 b g87 (55, [some (.ref x0), some (.ref x1), some (.int x2), some (.int x3)], r.toList ++ [], m') Q))))))) :
    mEs d 87 b g87 (36, [some (.ref x0), some (.ref x1), some (.int x2), some (.int x3)], [], m) Q := by
  refine e_iload_n (pc' := 37) (dAt D87 22 rfl) rfl rfl ?_
  refine e_aload_n (pc' := 38) (dAt D87 23 rfl) rfl rfl ?_
  refine e_getfield (pc' := 41) (dAt D87 24 rfl) rfl rfl hOx0 (hT.int hOx0 12 (by decide)) ?_
  refine e_icmp_ge (t := 73) (pc' := 44) (dAt D87 25 rfl) ⟨by decide, by decide⟩ rfl (fun c => ?_) (fun c => ?_)
  · replace h := h.1 c
    refine e_iconst (pc' := 74) (v := 0) (dAt D87 41 rfl) rfl (by decide) ?_
    exact e_ireturn (dAt D87 42 rfl) rfl ⟨rfl, fun e => by cases e⟩ h
  · replace h := h.2 c
    refine e_aload_n (pc' := 45) (dAt D87 26 rfl) rfl rfl ?_
    refine e_aload_n (pc' := 46) (dAt D87 27 rfl) rfl rfl ?_
    refine e_aload_n (pc' := 47) (dAt D87 28 rfl) rfl rfl ?_
    obtain ⟨r_1, l_2, f1, f_3, h⟩ := h
    refine e_getfield (pc' := 50) (dAt D87 29 rfl) rfl rfl hOx0 f1 ?_
    refine e_iload_n (pc' := 51) (dAt D87 30 rfl) rfl rfl ?_
    refine e_iload_n (pc' := 52) (dAt D87 31 rfl) rfl rfl ?_
    exact e_call2 h (dAt D87 32 rfl) (hi0 rfl) rfl G83 (by decide) rfl (Nat.le_of_ble_eq_true rfl) (kV hOx0 rfl rfl) rfl rfl
-- PlaceNets$Flows.isTooGreat.(LPlaceNets$Net;I)Z, from 55
set_option maxRecDepth 20000 in
theorem bk87_55 {d b : Nat} {Q : Option Value → mMem → Prop} {m : mMem} {x0 : Nat} {x1 : Nat} {x2 : Int32} {x3 : Int32} {y0 : Int64} (hT : mWT m) (hOx0 : m.1 x0 = some (.inr 4) ∧ x0 ≠ 0) (hOx1 : m.1 x1 = some (.inr 2) ∧ x1 ≠ 0) (hd1 : 1 ≤ d)
    (h : ((((lg_cmp (if 0 < y0 then y0 else -y0) 1000000000) ≤ 0) → (∀ (v_1 : Int32), v_1 = (x3 + 1) → mEs d 87 b g87 (36, [some (.ref x0), some (.ref x1), some (.int x2), some (.int v_1)], [], m) Q)) ∧ (¬ ((lg_cmp (if 0 < y0 then y0 else -y0) 1000000000) ≤ 0) → (Q (some (.int 1)) m)))) :
    mEs d 87 b g87 (55, [some (.ref x0), some (.ref x1), some (.int x2), some (.int x3)], [.long y0], m) Q := by
  refine e_absL (pc' := 58) (dAt D87 33 rfl) rfl rfl ⟨hd1, Nat.le_of_ble_eq_true rfl⟩ ?_
  refine e_ldc2_w (pc' := 61) (dAt D87 34 rfl) rfl rfl ?_
  refine e_lcmp (pc' := 62) (dAt D87 35 rfl) rfl ?_
  refine e_if_le (t := 67) (pc' := 65) (dAt D87 36 rfl) ⟨by decide, by decide⟩ rfl (fun c => ?_) (fun c => ?_)
  · replace h := h.1 c
    replace h := h _ rfl
    refine e_iinc (pc' := 70) (dAt D87 39 rfl) rfl rfl (Nat.le_of_ble_eq_true rfl) (congrArg (_ + ·) (show Int32.ofInt (1) = (1 : Int32) by decide)) rfl ?_
    refine e_goto (t := 36) (dAt D87 40 rfl) ⟨by decide, by decide⟩ ?_
    exact h
  · replace h := h.2 c
    refine e_iconst (pc' := 66) (v := 1) (dAt D87 37 rfl) rfl (by decide) ?_
    exact e_ireturn (dAt D87 38 rfl) rfl ⟨rfl, fun e => by cases e⟩ h
-- PlaceNets$Flows.dropRows.()V, from 0
set_option maxRecDepth 20000 in
theorem bk88_0 {d b : Nat} {Q : Option Value → mMem → Prop} {m : mMem} {x0 : Nat} {x1 : Option Value} {x2 : Option Value} (hT : mWT m) (hOx0 : m.1 x0 = some (.inr 4) ∧ x0 ≠ 0)
    (h : mEs d 88 b g88 (2, [some (.ref x0), some (.int 0), x2], [], m) Q) :
    mEs d 88 b g88 (0, [some (.ref x0), x1, x2], [], m) Q := by
  refine e_iconst (pc' := 1) (v := 0) (dAt D88 0 rfl) rfl (by decide) ?_
  refine e_istore_n (pc' := 2) (dAt D88 1 rfl) rfl (Nat.le_of_ble_eq_true rfl) rfl ?_
  exact h
-- PlaceNets$Flows.dropRows.()V, from 2
set_option maxRecDepth 20000 in
theorem bk88_2 {d b : Nat} {Q : Option Value → mMem → Prop} {m : mMem} {x0 : Nat} {x1 : Int32} {x2 : Option Value} (hT : mWT m) (hOx0 : m.1 x0 = some (.inr 4) ∧ x0 ≠ 0)
    (h : ((((iF m x0 1) ≤ x1) → (mEs d 88 b g88 (29, [some (.ref x0), some (.int 0), x2], [], m) Q)) ∧ (¬ ((iF m x0 1) ≤ x1) → (mEv d 89 [.ref x0, .int x1] m (fun r m' => mEs d 88 b g88 (20, [some (.ref x0), some (.int x1), x2], r.toList ++ [.int x1, .ref (64 * x0 + 4)], m') Q))))) :
    mEs d 88 b g88 (2, [some (.ref x0), some (.int x1), x2], [], m) Q := by
  refine e_iload_n (pc' := 3) (dAt D88 2 rfl) rfl rfl ?_
  refine e_aload_n (pc' := 4) (dAt D88 3 rfl) rfl rfl ?_
  refine e_getfield (pc' := 7) (dAt D88 4 rfl) rfl rfl hOx0 (hT.int hOx0 1 (by decide)) ?_
  refine e_icmp_ge (t := 27) (pc' := 10) (dAt D88 5 rfl) ⟨by decide, by decide⟩ rfl (fun c => ?_) (fun c => ?_)
  · replace h := h.1 c
    refine e_iconst (pc' := 28) (v := 0) (dAt D88 15 rfl) rfl (by decide) ?_
    refine e_istore_n (pc' := 29) (dAt D88 16 rfl) rfl (Nat.le_of_ble_eq_true rfl) rfl ?_
    exact h
  · replace h := h.2 c
    refine e_aload_n (pc' := 11) (dAt D88 6 rfl) rfl rfl ?_
    refine e_getfield (pc' := 14) (dAt D88 7 rfl) rfl rfl hOx0 (hT.own hOx0 1 rfl) ?_
    refine e_iload_n (pc' := 15) (dAt D88 8 rfl) rfl rfl ?_
    refine e_aload_n (pc' := 16) (dAt D88 9 rfl) rfl rfl ?_
    refine e_iload_n (pc' := 17) (dAt D88 10 rfl) rfl rfl ?_
    exact e_call2 h (dAt D88 11 rfl) (hi0 rfl) rfl G89 (by decide) rfl (Nat.le_of_ble_eq_true rfl) (kV hOx0 rfl rfl) rfl rfl
-- PlaceNets$Flows.dropRows.()V, from 20
set_option maxRecDepth 20000 in
theorem bk88_20 {d b : Nat} {Q : Option Value → mMem → Prop} {m : mMem} {x0 : Nat} {x1 : Int32} {x2 : Option Value} {y0 : Nat} {ly0 : Nat} {y1 : Int32} {y2 : Int32} (hT : mWT m) (hOx0 : m.1 x0 = some (.inr 4) ∧ x0 ≠ 0) (hAy0 : m.1 y0 = some (.inl (.int, ly0)) ∧ y0 ≠ 0)
    (h : (mIn y1 ly0 = true) ∧ (∀ (m_1 : mMem), m_1 = (mSetI m y0 (upd (m.2.2.1 y0) y1.toNatClampNeg y2)) → ∀ (v_3 : Int32), v_3 = (x1 + 1) → mEs d 88 b g88 (2, [some (.ref x0), some (.int v_3), x2], [], m_1) Q)) :
    mEs d 88 b g88 (20, [some (.ref x0), some (.int x1), x2], [.int y2, .int y1, .ref y0], m) Q := by
  obtain ⟨f1, h⟩ := h
  replace h := h _ rfl
  refine e_iastore (pc' := 21) (dAt D88 12 rfl) rfl hAy0.1 hAy0.2 f1 (nar_i _) ?_
  refine wtI hT (fun hT_2 => ?_)
  replace h := h _ rfl
  refine e_iinc (pc' := 24) (dAt D88 13 rfl) rfl rfl (Nat.le_of_ble_eq_true rfl) (congrArg (_ + ·) (show Int32.ofInt (1) = (1 : Int32) by decide)) rfl ?_
  refine e_goto (t := 2) (dAt D88 14 rfl) ⟨by decide, by decide⟩ ?_
  exact h
-- PlaceNets$Flows.dropRows.()V, from 29
set_option maxRecDepth 20000 in
theorem bk88_29 {d b : Nat} {Q : Option Value → mMem → Prop} {m : mMem} {x0 : Nat} {x1 : Int32} {x2 : Option Value} (hT : mWT m) (hOx0 : m.1 x0 = some (.inr 4) ∧ x0 ≠ 0)
    (h : ((((iF m x0 1) ≤ x1) → (mEs d 88 b g88 (58, [some (.ref x0), some (.int 0), some (.int 0)], [], m) Q)) ∧ (¬ ((iF m x0 1) ≤ x1) → (mEv d 90 [.ref x0, .int x1] m (fun r m' => mEs d 88 b g88 (47, [some (.ref x0), some (.int x1), x2], r.toList ++ [.int x1, .ref (64 * x0 + 5)], m') Q))))) :
    mEs d 88 b g88 (29, [some (.ref x0), some (.int x1), x2], [], m) Q := by
  refine e_iload_n (pc' := 30) (dAt D88 17 rfl) rfl rfl ?_
  refine e_aload_n (pc' := 31) (dAt D88 18 rfl) rfl rfl ?_
  refine e_getfield (pc' := 34) (dAt D88 19 rfl) rfl rfl hOx0 (hT.int hOx0 1 (by decide)) ?_
  refine e_icmp_ge (t := 54) (pc' := 37) (dAt D88 20 rfl) ⟨by decide, by decide⟩ rfl (fun c => ?_) (fun c => ?_)
  · replace h := h.1 c
    refine e_iconst (pc' := 55) (v := 0) (dAt D88 30 rfl) rfl (by decide) ?_
    refine e_istore_n (pc' := 56) (dAt D88 31 rfl) rfl (Nat.le_of_ble_eq_true rfl) rfl ?_
    refine e_iconst (pc' := 57) (v := 0) (dAt D88 32 rfl) rfl (by decide) ?_
    refine e_istore_n (pc' := 58) (dAt D88 33 rfl) rfl (Nat.le_of_ble_eq_true rfl) rfl ?_
    exact h
  · replace h := h.2 c
    refine e_aload_n (pc' := 38) (dAt D88 21 rfl) rfl rfl ?_
    refine e_getfield (pc' := 41) (dAt D88 22 rfl) rfl rfl hOx0 (hT.own hOx0 2 rfl) ?_
    refine e_iload_n (pc' := 42) (dAt D88 23 rfl) rfl rfl ?_
    refine e_aload_n (pc' := 43) (dAt D88 24 rfl) rfl rfl ?_
    refine e_iload_n (pc' := 44) (dAt D88 25 rfl) rfl rfl ?_
    exact e_call2 h (dAt D88 26 rfl) (hi0 rfl) rfl G90 (by decide) rfl (Nat.le_of_ble_eq_true rfl) (kV hOx0 rfl rfl) rfl rfl
-- PlaceNets$Flows.dropRows.()V, from 47
set_option maxRecDepth 20000 in
theorem bk88_47 {d b : Nat} {Q : Option Value → mMem → Prop} {m : mMem} {x0 : Nat} {x1 : Int32} {x2 : Option Value} {y0 : Nat} {ly0 : Nat} {y1 : Int32} {y2 : Int32} (hT : mWT m) (hOx0 : m.1 x0 = some (.inr 4) ∧ x0 ≠ 0) (hAy0 : m.1 y0 = some (.inl (.boolean, ly0)) ∧ y0 ≠ 0)
    (h : (mIn y1 ly0 = true) ∧ ((y2 = 0 ∨ y2 = 1) ∧ (∀ (m_1 : mMem), m_1 = (mSetI m y0 (upd (m.2.2.1 y0) y1.toNatClampNeg y2)) → ∀ (v_3 : Int32), v_3 = (x1 + 1) → mEs d 88 b g88 (29, [some (.ref x0), some (.int v_3), x2], [], m_1) Q))) :
    mEs d 88 b g88 (47, [some (.ref x0), some (.int x1), x2], [.int y2, .int y1, .ref y0], m) Q := by
  obtain ⟨f1, h⟩ := h
  obtain ⟨f9, h⟩ := h
  replace h := h _ rfl
  refine e_zastore (pc' := 48) (dAt D88 27 rfl) rfl hAy0.1 hAy0.2 f1 (vz01 f9) ?_
  refine wtI hT (fun hT_2 => ?_)
  replace h := h _ rfl
  refine e_iinc (pc' := 51) (dAt D88 28 rfl) rfl rfl (Nat.le_of_ble_eq_true rfl) (congrArg (_ + ·) (show Int32.ofInt (1) = (1 : Int32) by decide)) rfl ?_
  refine e_goto (t := 29) (dAt D88 29 rfl) ⟨by decide, by decide⟩ ?_
  exact h
-- PlaceNets$Flows.dropRows.()V, from 58
set_option maxRecDepth 20000 in
theorem bk88_58 {d b : Nat} {Q : Option Value → mMem → Prop} {m : mMem} {x0 : Nat} {x1 : Int32} {x2 : Int32} (hT : mWT m) (hOx0 : m.1 x0 = some (.inr 4) ∧ x0 ≠ 0) (hd1 : 1 ≤ d)
    (h : ((((iF m x0 1) ≤ x2) → (∀ (m_1 : mMem), m_1 = (mSetF m x0 1 (.int x1)) → Q none m_1)) ∧ (¬ ((iF m x0 1) ≤ x2) → ((mIn x2 300 = true) ∧ (((¬ (m.2.2.1 (64 * x0 + 5) x2.toNatClampNeg) = 0) → (∀ (v_3 : Int32), v_3 = (x2 + 1) → mEs d 88 b g88 (58, [some (.ref x0), some (.int x1), some (.int v_3)], [], m) Q)) ∧ (¬ (¬ (m.2.2.1 (64 * x0 + 5) x2.toNatClampNeg) = 0) → (∃ (r_4 l_5 : Nat), (m.2.1 x0 4 = .ref r_4) ∧ ((m.1 r_4 = some (.inl (.int, l_5)) ∧ r_4 ≠ 0) ∧ (∃ (r_7 l_8 : Nat), (m.2.1 x0 4 = .ref r_7) ∧ ((m.1 r_7 = some (.inl (.int, l_8)) ∧ r_7 ≠ 0) ∧ ((¬ (x2 * 10) < 0 ∧ ¬ (x1 * 10) < 0 ∧ ¬ (10 : Int32) < 0 ∧ (x2 * 10).toNatClampNeg + (10 : Int32).toNatClampNeg ≤ l_5 ∧ (x1 * 10).toNatClampNeg + (10 : Int32).toNatClampNeg ≤ l_8) ∧ (∀ (m_10 : mMem), m_10 = (mSetI m r_7 (va_cpy (m.2.2.1 r_4) (m.2.2.1 r_7) (x2 * 10).toNatClampNeg (x1 * 10).toNatClampNeg (10 : Int32).toNatClampNeg)) → (mIn x2 300 = true) ∧ ((mIn x1 300 = true) ∧ (∀ (m_12 : mMem), m_12 = (mSetI m_10 (64 * x0 + 4) (upd (m_10.2.2.1 (64 * x0 + 4)) x1.toNatClampNeg (m_10.2.2.1 (64 * x0 + 4) x2.toNatClampNeg))) → ∀ (v_14 : Int32), v_14 = (x1 + 1) → ∀ (v_15 : Int32), v_15 = (x2 + 1) → mEs d 88 b g88 (58, [some (.ref x0), some (.int v_14), some (.int v_15)], [], m_12) Q)))))))))))))) :
    mEs d 88 b g88 (58, [some (.ref x0), some (.int x1), some (.int x2)], [], m) Q := by
  refine e_iload_n (pc' := 59) (dAt D88 34 rfl) rfl rfl ?_
  refine e_aload_n (pc' := 60) (dAt D88 35 rfl) rfl rfl ?_
  refine e_getfield (pc' := 63) (dAt D88 36 rfl) rfl rfl hOx0 (hT.int hOx0 1 (by decide)) ?_
  refine e_icmp_ge (t := 117) (pc' := 66) (dAt D88 37 rfl) ⟨by decide, by decide⟩ rfl (fun c => ?_) (fun c => ?_)
  · replace h := h.1 c
    refine e_aload_n (pc' := 118) (dAt D88 66 rfl) rfl rfl ?_
    refine e_iload_n (pc' := 119) (dAt D88 67 rfl) rfl rfl ?_
    replace h := h _ rfl
    refine e_putfield (pc' := 122) (dAt D88 68 rfl) rfl rfl hOx0 rfl rfl (fun e => by cases e) ?_
    refine wtF hT hOx0 (by decide) (fun hT_2 => ?_)
    exact e_return (dAt D88 69 rfl) rfl h
  · replace h := h.2 c
    refine e_aload_n (pc' := 67) (dAt D88 38 rfl) rfl rfl ?_
    refine e_getfield (pc' := 70) (dAt D88 39 rfl) rfl rfl hOx0 (hT.own hOx0 2 rfl) ?_
    refine e_iload_n (pc' := 71) (dAt D88 40 rfl) rfl rfl ?_
    obtain ⟨f1, h⟩ := h
    refine e_zaload (pc' := 72) (dAt D88 41 rfl) rfl (hT.arr hOx0 2 rfl (by decide)).1 (Or.inl (hT.arr hOx0 2 rfl (by decide)).2) f1 rfl ?_
    refine e_if_ne (t := 111) (pc' := 75) (dAt D88 42 rfl) ⟨by decide, by decide⟩ rfl (fun c => ?_) (fun c => ?_)
    · replace h := h.1 c
      replace h := h _ rfl
      refine e_iinc (pc' := 114) (dAt D88 64 rfl) rfl rfl (Nat.le_of_ble_eq_true rfl) (congrArg (_ + ·) (show Int32.ofInt (1) = (1 : Int32) by decide)) rfl ?_
      refine e_goto (t := 58) (dAt D88 65 rfl) ⟨by decide, by decide⟩ ?_
      exact h
    · replace h := h.2 c
      refine e_aload_n (pc' := 76) (dAt D88 43 rfl) rfl rfl ?_
      obtain ⟨r_4, l_5, f1, f_6, h⟩ := h
      refine e_getfield (pc' := 79) (dAt D88 44 rfl) rfl rfl hOx0 f1 ?_
      refine e_iload_n (pc' := 80) (dAt D88 45 rfl) rfl rfl ?_
      refine e_bipush (pc' := 82) (v := 10) (dAt D88 46 rfl) rfl (by decide) ?_
      refine e_imul (pc' := 83) (dAt D88 47 rfl) rfl ?_
      refine e_aload_n (pc' := 84) (dAt D88 48 rfl) rfl rfl ?_
      obtain ⟨r_7, l_8, f1, f_9, h⟩ := h
      refine e_getfield (pc' := 87) (dAt D88 49 rfl) rfl rfl hOx0 f1 ?_
      refine e_iload_n (pc' := 88) (dAt D88 50 rfl) rfl rfl ?_
      refine e_bipush (pc' := 90) (v := 10) (dAt D88 51 rfl) rfl (by decide) ?_
      refine e_imul (pc' := 91) (dAt D88 52 rfl) rfl ?_
      refine e_bipush (pc' := 93) (v := 10) (dAt D88 53 rfl) rfl (by decide) ?_
      obtain ⟨f1, h⟩ := h
      replace h := h _ rfl
      refine e_copy (pc' := 96) (dAt D88 54 rfl) rfl rfl f_6 f_9 f1 ⟨hd1, Nat.le_of_ble_eq_true rfl⟩ ?_
      refine wtI hT (fun hT_11 => ?_)
      refine e_aload_n (pc' := 97) (dAt D88 55 rfl) rfl rfl ?_
      refine e_getfield (pc' := 100) (dAt D88 56 rfl) rfl rfl hOx0 (hT_11.own hOx0 1 rfl) ?_
      refine e_iload_n (pc' := 101) (dAt D88 57 rfl) rfl rfl ?_
      refine e_aload_n (pc' := 102) (dAt D88 58 rfl) rfl rfl ?_
      refine e_getfield (pc' := 105) (dAt D88 59 rfl) rfl rfl hOx0 (hT_11.own hOx0 1 rfl) ?_
      refine e_iload_n (pc' := 106) (dAt D88 60 rfl) rfl rfl ?_
      obtain ⟨f1, h⟩ := h
      refine e_iaload (pc' := 107) (dAt D88 61 rfl) rfl (hT_11.arr hOx0 1 rfl (by decide)).1 (Or.inl (hT_11.arr hOx0 1 rfl (by decide)).2) f1 rfl ?_
      obtain ⟨f1, h⟩ := h
      replace h := h _ rfl
      refine e_iastore (pc' := 108) (dAt D88 62 rfl) rfl (hT_11.arr hOx0 1 rfl (by decide)).1 (hT_11.arr hOx0 1 rfl (by decide)).2 f1 (nar_i _) ?_
      refine wtI hT_11 (fun hT_13 => ?_)
      replace h := h _ rfl
      refine e_iinc (pc' := 111) (dAt D88 63 rfl) rfl rfl (Nat.le_of_ble_eq_true rfl) (congrArg (_ + ·) (show Int32.ofInt (1) = (1 : Int32) by decide)) rfl ?_
      replace h := h _ rfl
      refine e_iinc (pc' := 114) (dAt D88 64 rfl) rfl rfl (Nat.le_of_ble_eq_true rfl) (congrArg (_ + ·) (show Int32.ofInt (1) = (1 : Int32) by decide)) rfl ?_
      refine e_goto (t := 58) (dAt D88 65 rfl) ⟨by decide, by decide⟩ ?_
      exact h
-- PlaceNets$Flows.usedBy.(I)I, from 0
set_option maxRecDepth 20000 in
theorem bk89_0 {d b : Nat} {Q : Option Value → mMem → Prop} {m : mMem} {x0 : Nat} {x1 : Int32} {x2 : Option Value} {x3 : Option Value} (hT : mWT m) (hOx0 : m.1 x0 = some (.inr 4) ∧ x0 ≠ 0)
    (h : mEs d 89 b g89 (4, [some (.ref x0), some (.int x1), some (.int 0), some (.int 0)], [], m) Q) :
    mEs d 89 b g89 (0, [some (.ref x0), some (.int x1), x2, x3], [], m) Q := by
  refine e_iconst (pc' := 1) (v := 0) (dAt D89 0 rfl) rfl (by decide) ?_
  refine e_istore_n (pc' := 2) (dAt D89 1 rfl) rfl (Nat.le_of_ble_eq_true rfl) rfl ?_
  refine e_iconst (pc' := 3) (v := 0) (dAt D89 2 rfl) rfl (by decide) ?_
  refine e_istore_n (pc' := 4) (dAt D89 3 rfl) rfl (Nat.le_of_ble_eq_true rfl) rfl ?_
  exact h
-- PlaceNets$Flows.usedBy.(I)I, from 4
set_option maxRecDepth 20000 in
theorem bk89_4 {d b : Nat} {Q : Option Value → mMem → Prop} {m : mMem} {x0 : Nat} {x1 : Int32} {x2 : Int32} {x3 : Int32} (hT : mWT m) (hOx0 : m.1 x0 = some (.inr 4) ∧ x0 ≠ 0)
    (h : ((((iF m x0 11) ≤ x3) → (Q (some (.int x2)) m)) ∧ (¬ ((iF m x0 11) ≤ x3) → (∃ (r_1 l_2 : Nat), (m.2.1 x0 4 = .ref r_1) ∧ ((m.1 r_1 = some (.inl (.int, l_2)) ∧ r_1 ≠ 0) ∧ ((mIn ((x1 * 10) + x3) l_2 = true) ∧ ((((m.2.2.1 r_1 ((x1 * 10) + x3).toNatClampNeg) = 0) → (∀ (v_4 : Int32), v_4 = (x3 + 1) → mEs d 89 b g89 (4, [some (.ref x0), some (.int x1), some (.int x2), some (.int v_4)], [], m) Q)) ∧ (¬ ((m.2.2.1 r_1 ((x1 * 10) + x3).toNatClampNeg) = 0) → (∀ (v_5 : Int32), v_5 = (x2 ||| ((1 : Int32) <<< (x3 &&& 31))) → ∀ (v_6 : Int32), v_6 = (x3 + 1) → mEs d 89 b g89 (4, [some (.ref x0), some (.int x1), some (.int v_5), some (.int v_6)], [], m) Q))))))))) :
    mEs d 89 b g89 (4, [some (.ref x0), some (.int x1), some (.int x2), some (.int x3)], [], m) Q := by
  refine e_iload_n (pc' := 5) (dAt D89 4 rfl) rfl rfl ?_
  refine e_aload_n (pc' := 6) (dAt D89 5 rfl) rfl rfl ?_
  refine e_getfield (pc' := 9) (dAt D89 6 rfl) rfl rfl hOx0 (hT.int hOx0 11 (by decide)) ?_
  refine e_icmp_ge (t := 38) (pc' := 12) (dAt D89 7 rfl) ⟨by decide, by decide⟩ rfl (fun c => ?_) (fun c => ?_)
  · replace h := h.1 c
    refine e_iload_n (pc' := 39) (dAt D89 25 rfl) rfl rfl ?_
    exact e_ireturn (dAt D89 26 rfl) rfl ⟨rfl, fun e => by cases e⟩ h
  · replace h := h.2 c
    refine e_aload_n (pc' := 13) (dAt D89 8 rfl) rfl rfl ?_
    obtain ⟨r_1, l_2, f1, f_3, h⟩ := h
    refine e_getfield (pc' := 16) (dAt D89 9 rfl) rfl rfl hOx0 f1 ?_
    refine e_iload_n (pc' := 17) (dAt D89 10 rfl) rfl rfl ?_
    refine e_bipush (pc' := 19) (v := 10) (dAt D89 11 rfl) rfl (by decide) ?_
    refine e_imul (pc' := 20) (dAt D89 12 rfl) rfl ?_
    refine e_iload_n (pc' := 21) (dAt D89 13 rfl) rfl rfl ?_
    refine e_iadd (pc' := 22) (dAt D89 14 rfl) rfl ?_
    obtain ⟨f1, h⟩ := h
    refine e_iaload (pc' := 23) (dAt D89 15 rfl) rfl f_3.1 (Or.inl f_3.2) f1 rfl ?_
    refine e_if_eq (t := 32) (pc' := 26) (dAt D89 16 rfl) ⟨by decide, by decide⟩ rfl (fun c => ?_) (fun c => ?_)
    · replace h := h.1 c
      replace h := h _ rfl
      refine e_iinc (pc' := 35) (dAt D89 23 rfl) rfl rfl (Nat.le_of_ble_eq_true rfl) (congrArg (_ + ·) (show Int32.ofInt (1) = (1 : Int32) by decide)) rfl ?_
      refine e_goto (t := 4) (dAt D89 24 rfl) ⟨by decide, by decide⟩ ?_
      exact h
    · replace h := h.2 c
      refine e_iload_n (pc' := 27) (dAt D89 17 rfl) rfl rfl ?_
      refine e_iconst (pc' := 28) (v := 1) (dAt D89 18 rfl) rfl (by decide) ?_
      refine e_iload_n (pc' := 29) (dAt D89 19 rfl) rfl rfl ?_
      refine e_ishl (pc' := 30) (dAt D89 20 rfl) rfl ?_
      refine e_ior (pc' := 31) (dAt D89 21 rfl) rfl ?_
      replace h := h _ rfl
      refine e_istore_n (pc' := 32) (dAt D89 22 rfl) rfl (Nat.le_of_ble_eq_true rfl) rfl ?_
      replace h := h _ rfl
      refine e_iinc (pc' := 35) (dAt D89 23 rfl) rfl rfl (Nat.le_of_ble_eq_true rfl) (congrArg (_ + ·) (show Int32.ofInt (1) = (1 : Int32) by decide)) rfl ?_
      refine e_goto (t := 4) (dAt D89 24 rfl) ⟨by decide, by decide⟩ ?_
      exact h
-- PlaceNets$Flows.isBeaten.(I)Z, from 0
set_option maxRecDepth 20000 in
theorem bk90_0 {d b : Nat} {Q : Option Value → mMem → Prop} {m : mMem} {x0 : Nat} {x1 : Int32} {x2 : Option Value} {x3 : Option Value} (hT : mWT m) (hOx0 : m.1 x0 = some (.inr 4) ∧ x0 ≠ 0)
    (h : mEs d 90 b g90 (2, [some (.ref x0), some (.int x1), some (.int 0), x3], [], m) Q) :
    mEs d 90 b g90 (0, [some (.ref x0), some (.int x1), x2, x3], [], m) Q := by
  refine e_iconst (pc' := 1) (v := 0) (dAt D90 0 rfl) rfl (by decide) ?_
  refine e_istore_n (pc' := 2) (dAt D90 1 rfl) rfl (Nat.le_of_ble_eq_true rfl) rfl ?_
  exact h
-- PlaceNets$Flows.isBeaten.(I)Z, from 2
set_option maxRecDepth 20000 in
theorem bk90_2 {d b : Nat} {Q : Option Value → mMem → Prop} {m : mMem} {x0 : Nat} {x1 : Int32} {x2 : Int32} {x3 : Option Value} (hT : mWT m) (hOx0 : m.1 x0 = some (.inr 4) ∧ x0 ≠ 0)
    (h : ((((iF m x0 1) ≤ x2) → (Q (some (.int 0)) m)) ∧ (¬ ((iF m x0 1) ≤ x2) → ((mIn x2 300 = true) ∧ ((mIn x1 300 = true) ∧ (((¬ ((m.2.2.1 (64 * x0 + 4) x2.toNatClampNeg) &&& ((m.2.2.1 (64 * x0 + 4) x1.toNatClampNeg) ^^^ ((-1)))) = 0) → (∀ (v_1 : Int32), v_1 = (x2 + 1) → mEs d 90 b g90 (2, [some (.ref x0), some (.int x1), some (.int v_1), some (.int 0)], [], m) Q)) ∧ (¬ (¬ ((m.2.2.1 (64 * x0 + 4) x2.toNatClampNeg) &&& ((m.2.2.1 (64 * x0 + 4) x1.toNatClampNeg) ^^^ ((-1)))) = 0) → ((mIn x2 300 = true) ∧ ((mIn x1 300 = true) ∧ (((¬ (m.2.2.1 (64 * x0 + 4) x2.toNatClampNeg) = (m.2.2.1 (64 * x0 + 4) x1.toNatClampNeg)) → (Q (some (.int 1)) m)) ∧ (¬ (¬ (m.2.2.1 (64 * x0 + 4) x2.toNatClampNeg) = (m.2.2.1 (64 * x0 + 4) x1.toNatClampNeg)) → (((x1 ≤ x2) → (∀ (v_2 : Int32), v_2 = (x2 + 1) → mEs d 90 b g90 (2, [some (.ref x0), some (.int x1), some (.int v_2), some (.int 1)], [], m) Q)) ∧ (¬ (x1 ≤ x2) → (Q (some (.int 1)) m)))))))))))))) :
    mEs d 90 b g90 (2, [some (.ref x0), some (.int x1), some (.int x2), x3], [], m) Q := by
  refine e_iload_n (pc' := 3) (dAt D90 2 rfl) rfl rfl ?_
  refine e_aload_n (pc' := 4) (dAt D90 3 rfl) rfl rfl ?_
  refine e_getfield (pc' := 7) (dAt D90 4 rfl) rfl rfl hOx0 (hT.int hOx0 1 (by decide)) ?_
  refine e_icmp_ge (t := 66) (pc' := 10) (dAt D90 5 rfl) ⟨by decide, by decide⟩ rfl (fun c => ?_) (fun c => ?_)
  · replace h := h.1 c
    refine e_iconst (pc' := 67) (v := 0) (dAt D90 40 rfl) rfl (by decide) ?_
    exact e_ireturn (dAt D90 41 rfl) rfl ⟨rfl, fun e => by cases e⟩ h
  · replace h := h.2 c
    refine e_aload_n (pc' := 11) (dAt D90 6 rfl) rfl rfl ?_
    refine e_getfield (pc' := 14) (dAt D90 7 rfl) rfl rfl hOx0 (hT.own hOx0 1 rfl) ?_
    refine e_iload_n (pc' := 15) (dAt D90 8 rfl) rfl rfl ?_
    obtain ⟨f1, h⟩ := h
    refine e_iaload (pc' := 16) (dAt D90 9 rfl) rfl (hT.arr hOx0 1 rfl (by decide)).1 (Or.inl (hT.arr hOx0 1 rfl (by decide)).2) f1 rfl ?_
    refine e_aload_n (pc' := 17) (dAt D90 10 rfl) rfl rfl ?_
    refine e_getfield (pc' := 20) (dAt D90 11 rfl) rfl rfl hOx0 (hT.own hOx0 1 rfl) ?_
    refine e_iload_n (pc' := 21) (dAt D90 12 rfl) rfl rfl ?_
    obtain ⟨f1, h⟩ := h
    refine e_iaload (pc' := 22) (dAt D90 13 rfl) rfl (hT.arr hOx0 1 rfl (by decide)).1 (Or.inl (hT.arr hOx0 1 rfl (by decide)).2) f1 rfl ?_
    refine e_iconst (pc' := 23) (v := (-1)) (dAt D90 14 rfl) rfl (by decide) ?_
    refine e_ixor (pc' := 24) (dAt D90 15 rfl) rfl ?_
    refine e_iand (pc' := 25) (dAt D90 16 rfl) rfl ?_
    refine e_if_ne (t := 32) (pc' := 28) (dAt D90 17 rfl) ⟨by decide, by decide⟩ rfl (fun c => ?_) (fun c => ?_)
    · replace h := h.1 c
      refine e_iconst (pc' := 33) (v := 0) (dAt D90 20 rfl) rfl (by decide) ?_
      refine e_istore_n (pc' := 34) (dAt D90 21 rfl) rfl (Nat.le_of_ble_eq_true rfl) rfl ?_
      refine e_iload_n (pc' := 35) (dAt D90 22 rfl) rfl rfl ?_
      refine e_if_eq (t := 60) (pc' := 38) (dAt D90 23 rfl) ⟨by decide, by decide⟩ rfl (fun c => ?_) (fun c => absurd (by decide) c)
      replace h := h _ rfl
      refine e_iinc (pc' := 63) (dAt D90 38 rfl) rfl rfl (Nat.le_of_ble_eq_true rfl) (congrArg (_ + ·) (show Int32.ofInt (1) = (1 : Int32) by decide)) rfl ?_
      refine e_goto (t := 2) (dAt D90 39 rfl) ⟨by decide, by decide⟩ ?_
      exact h
    · replace h := h.2 c
      refine e_iconst (pc' := 29) (v := 1) (dAt D90 18 rfl) rfl (by decide) ?_
      refine e_goto (t := 33) (dAt D90 19 rfl) ⟨by decide, by decide⟩ ?_
      refine e_istore_n (pc' := 34) (dAt D90 21 rfl) rfl (Nat.le_of_ble_eq_true rfl) rfl ?_
      refine e_iload_n (pc' := 35) (dAt D90 22 rfl) rfl rfl ?_
      refine e_if_eq (t := 60) (pc' := 38) (dAt D90 23 rfl) ⟨by decide, by decide⟩ rfl (fun c => absurd c (by decide)) (fun c => ?_)
      refine e_aload_n (pc' := 39) (dAt D90 24 rfl) rfl rfl ?_
      refine e_getfield (pc' := 42) (dAt D90 25 rfl) rfl rfl hOx0 (hT.own hOx0 1 rfl) ?_
      refine e_iload_n (pc' := 43) (dAt D90 26 rfl) rfl rfl ?_
      obtain ⟨f1, h⟩ := h
      refine e_iaload (pc' := 44) (dAt D90 27 rfl) rfl (hT.arr hOx0 1 rfl (by decide)).1 (Or.inl (hT.arr hOx0 1 rfl (by decide)).2) f1 rfl ?_
      refine e_aload_n (pc' := 45) (dAt D90 28 rfl) rfl rfl ?_
      refine e_getfield (pc' := 48) (dAt D90 29 rfl) rfl rfl hOx0 (hT.own hOx0 1 rfl) ?_
      refine e_iload_n (pc' := 49) (dAt D90 30 rfl) rfl rfl ?_
      obtain ⟨f1, h⟩ := h
      refine e_iaload (pc' := 50) (dAt D90 31 rfl) rfl (hT.arr hOx0 1 rfl (by decide)).1 (Or.inl (hT.arr hOx0 1 rfl (by decide)).2) f1 rfl ?_
      refine e_icmp_ne (t := 58) (pc' := 53) (dAt D90 32 rfl) ⟨by decide, by decide⟩ rfl (fun c => ?_) (fun c => ?_)
      · replace h := h.1 c
        refine e_iconst (pc' := 59) (v := 1) (dAt D90 36 rfl) rfl (by decide) ?_
        exact e_ireturn (dAt D90 37 rfl) rfl ⟨rfl, fun e => by cases e⟩ h
      · replace h := h.2 c
        refine e_iload_n (pc' := 54) (dAt D90 33 rfl) rfl rfl ?_
        refine e_iload_n (pc' := 55) (dAt D90 34 rfl) rfl rfl ?_
        refine e_icmp_ge (t := 60) (pc' := 58) (dAt D90 35 rfl) ⟨by decide, by decide⟩ rfl (fun c => ?_) (fun c => ?_)
        · replace h := h.1 c
          replace h := h _ rfl
          refine e_iinc (pc' := 63) (dAt D90 38 rfl) rfl rfl (Nat.le_of_ble_eq_true rfl) (congrArg (_ + ·) (show Int32.ofInt (1) = (1 : Int32) by decide)) rfl ?_
          refine e_goto (t := 2) (dAt D90 39 rfl) ⟨by decide, by decide⟩ ?_
          exact h
        · replace h := h.2 c
          refine e_iconst (pc' := 59) (v := 1) (dAt D90 36 rfl) rfl (by decide) ?_
          exact e_ireturn (dAt D90 37 rfl) rfl ⟨rfl, fun e => by cases e⟩ h
-- PlaceNets$Flows.sortRows.()V, from 0
set_option maxRecDepth 20000 in
theorem bk91_0 {d b : Nat} {Q : Option Value → mMem → Prop} {m : mMem} {x0 : Nat} {x1 : Option Value} {x2 : Option Value} (hT : mWT m) (hOx0 : m.1 x0 = some (.inr 4) ∧ x0 ≠ 0)
    (h : mEs d 91 b g91 (2, [some (.ref x0), some (.int 0), x2], [], m) Q) :
    mEs d 91 b g91 (0, [some (.ref x0), x1, x2], [], m) Q := by
  refine e_iconst (pc' := 1) (v := 0) (dAt D91 0 rfl) rfl (by decide) ?_
  refine e_istore_n (pc' := 2) (dAt D91 1 rfl) rfl (Nat.le_of_ble_eq_true rfl) rfl ?_
  exact h
-- PlaceNets$Flows.sortRows.()V, from 2
set_option maxRecDepth 20000 in
theorem bk91_2 {d b : Nat} {Q : Option Value → mMem → Prop} {m : mMem} {x0 : Nat} {x1 : Int32} {x2 : Option Value} (hT : mWT m) (hOx0 : m.1 x0 = some (.inr 4) ∧ x0 ≠ 0)
    (h : ((((iF m x0 1) ≤ x1) → (Q none m)) ∧ (¬ ((iF m x0 1) ≤ x1) → (mEs d 91 b g91 (12, [some (.ref x0), some (.int x1), some (.int x1)], [], m) Q)))) :
    mEs d 91 b g91 (2, [some (.ref x0), some (.int x1), x2], [], m) Q := by
  refine e_iload_n (pc' := 3) (dAt D91 2 rfl) rfl rfl ?_
  refine e_aload_n (pc' := 4) (dAt D91 3 rfl) rfl rfl ?_
  refine e_getfield (pc' := 7) (dAt D91 4 rfl) rfl rfl hOx0 (hT.int hOx0 1 (by decide)) ?_
  refine e_icmp_ge (t := 71) (pc' := 10) (dAt D91 5 rfl) ⟨by decide, by decide⟩ rfl (fun c => ?_) (fun c => ?_)
  · replace h := h.1 c
    exact e_return (dAt D91 43 rfl) rfl h
  · replace h := h.2 c
    refine e_iload_n (pc' := 11) (dAt D91 6 rfl) rfl rfl ?_
    refine e_istore_n (pc' := 12) (dAt D91 7 rfl) rfl (Nat.le_of_ble_eq_true rfl) rfl ?_
    exact h
-- PlaceNets$Flows.sortRows.()V, from 12
set_option maxRecDepth 20000 in
theorem bk91_12 {d b : Nat} {Q : Option Value → mMem → Prop} {m : mMem} {x0 : Nat} {x1 : Int32} {x2 : Int32} (hT : mWT m) (hOx0 : m.1 x0 = some (.inr 4) ∧ x0 ≠ 0)
    (h : (((x2 ≤ 0) → ((mIn x2 300 = true) ∧ (∀ (m_1 : mMem), m_1 = (mSetI m (64 * x0 + 6) (upd (m.2.2.1 (64 * x0 + 6)) x2.toNatClampNeg x1)) → ∀ (v_3 : Int32), v_3 = (x1 + 1) → mEs d 91 b g91 (2, [some (.ref x0), some (.int v_3), some (.int x2)], [], m_1) Q))) ∧ (¬ (x2 ≤ 0) → ((mIn (x2 - 1) 300 = true) ∧ ((mIn (m.2.2.1 (64 * x0 + 6) (x2 - 1).toNatClampNeg) 300 = true) ∧ ((mIn x1 300 = true) ∧ ((((m.2.2.1 (64 * x0 + 4) (m.2.2.1 (64 * x0 + 6) (x2 - 1).toNatClampNeg).toNatClampNeg) ≤ (m.2.2.1 (64 * x0 + 4) x1.toNatClampNeg)) → ((mIn x2 300 = true) ∧ (∀ (m_4 : mMem), m_4 = (mSetI m (64 * x0 + 6) (upd (m.2.2.1 (64 * x0 + 6)) x2.toNatClampNeg x1)) → ∀ (v_6 : Int32), v_6 = (x1 + 1) → mEs d 91 b g91 (2, [some (.ref x0), some (.int v_6), some (.int x2)], [], m_4) Q))) ∧ (¬ ((m.2.2.1 (64 * x0 + 4) (m.2.2.1 (64 * x0 + 6) (x2 - 1).toNatClampNeg).toNatClampNeg) ≤ (m.2.2.1 (64 * x0 + 4) x1.toNatClampNeg)) → ((mIn (x2 - 1) 300 = true) ∧ ((mIn x2 300 = true) ∧ (∀ (m_7 : mMem), m_7 = (mSetI m (64 * x0 + 6) (upd (m.2.2.1 (64 * x0 + 6)) x2.toNatClampNeg (m.2.2.1 (64 * x0 + 6) (x2 - 1).toNatClampNeg))) → ∀ (v_9 : Int32), v_9 = (x2 + (-1)) → mEs d 91 b g91 (12, [some (.ref x0), some (.int x1), some (.int v_9)], [], m_7) Q))))))))))) :
    mEs d 91 b g91 (12, [some (.ref x0), some (.int x1), some (.int x2)], [], m) Q := by
  refine e_iload_n (pc' := 13) (dAt D91 8 rfl) rfl rfl ?_
  refine e_if_le (t := 58) (pc' := 16) (dAt D91 9 rfl) ⟨by decide, by decide⟩ rfl (fun c => ?_) (fun c => ?_)
  · replace h := h.1 c
    refine e_aload_n (pc' := 59) (dAt D91 36 rfl) rfl rfl ?_
    refine e_getfield (pc' := 62) (dAt D91 37 rfl) rfl rfl hOx0 (hT.own hOx0 3 rfl) ?_
    refine e_iload_n (pc' := 63) (dAt D91 38 rfl) rfl rfl ?_
    refine e_iload_n (pc' := 64) (dAt D91 39 rfl) rfl rfl ?_
    obtain ⟨f1, h⟩ := h
    replace h := h _ rfl
    refine e_iastore (pc' := 65) (dAt D91 40 rfl) rfl (hT.arr hOx0 3 rfl (by decide)).1 (hT.arr hOx0 3 rfl (by decide)).2 f1 (nar_i _) ?_
    refine wtI hT (fun hT_2 => ?_)
    replace h := h _ rfl
    refine e_iinc (pc' := 68) (dAt D91 41 rfl) rfl rfl (Nat.le_of_ble_eq_true rfl) (congrArg (_ + ·) (show Int32.ofInt (1) = (1 : Int32) by decide)) rfl ?_
    refine e_goto (t := 2) (dAt D91 42 rfl) ⟨by decide, by decide⟩ ?_
    exact h
  · replace h := h.2 c
    refine e_aload_n (pc' := 17) (dAt D91 10 rfl) rfl rfl ?_
    refine e_getfield (pc' := 20) (dAt D91 11 rfl) rfl rfl hOx0 (hT.own hOx0 1 rfl) ?_
    refine e_aload_n (pc' := 21) (dAt D91 12 rfl) rfl rfl ?_
    refine e_getfield (pc' := 24) (dAt D91 13 rfl) rfl rfl hOx0 (hT.own hOx0 3 rfl) ?_
    refine e_iload_n (pc' := 25) (dAt D91 14 rfl) rfl rfl ?_
    refine e_iconst (pc' := 26) (v := 1) (dAt D91 15 rfl) rfl (by decide) ?_
    refine e_isub (pc' := 27) (dAt D91 16 rfl) rfl ?_
    obtain ⟨f1, h⟩ := h
    refine e_iaload (pc' := 28) (dAt D91 17 rfl) rfl (hT.arr hOx0 3 rfl (by decide)).1 (Or.inl (hT.arr hOx0 3 rfl (by decide)).2) f1 rfl ?_
    obtain ⟨f1, h⟩ := h
    refine e_iaload (pc' := 29) (dAt D91 18 rfl) rfl (hT.arr hOx0 1 rfl (by decide)).1 (Or.inl (hT.arr hOx0 1 rfl (by decide)).2) f1 rfl ?_
    refine e_aload_n (pc' := 30) (dAt D91 19 rfl) rfl rfl ?_
    refine e_getfield (pc' := 33) (dAt D91 20 rfl) rfl rfl hOx0 (hT.own hOx0 1 rfl) ?_
    refine e_iload_n (pc' := 34) (dAt D91 21 rfl) rfl rfl ?_
    obtain ⟨f1, h⟩ := h
    refine e_iaload (pc' := 35) (dAt D91 22 rfl) rfl (hT.arr hOx0 1 rfl (by decide)).1 (Or.inl (hT.arr hOx0 1 rfl (by decide)).2) f1 rfl ?_
    refine e_icmp_le (t := 58) (pc' := 38) (dAt D91 23 rfl) ⟨by decide, by decide⟩ rfl (fun c => ?_) (fun c => ?_)
    · replace h := h.1 c
      refine e_aload_n (pc' := 59) (dAt D91 36 rfl) rfl rfl ?_
      refine e_getfield (pc' := 62) (dAt D91 37 rfl) rfl rfl hOx0 (hT.own hOx0 3 rfl) ?_
      refine e_iload_n (pc' := 63) (dAt D91 38 rfl) rfl rfl ?_
      refine e_iload_n (pc' := 64) (dAt D91 39 rfl) rfl rfl ?_
      obtain ⟨f1, h⟩ := h
      replace h := h _ rfl
      refine e_iastore (pc' := 65) (dAt D91 40 rfl) rfl (hT.arr hOx0 3 rfl (by decide)).1 (hT.arr hOx0 3 rfl (by decide)).2 f1 (nar_i _) ?_
      refine wtI hT (fun hT_5 => ?_)
      replace h := h _ rfl
      refine e_iinc (pc' := 68) (dAt D91 41 rfl) rfl rfl (Nat.le_of_ble_eq_true rfl) (congrArg (_ + ·) (show Int32.ofInt (1) = (1 : Int32) by decide)) rfl ?_
      refine e_goto (t := 2) (dAt D91 42 rfl) ⟨by decide, by decide⟩ ?_
      exact h
    · replace h := h.2 c
      refine e_aload_n (pc' := 39) (dAt D91 24 rfl) rfl rfl ?_
      refine e_getfield (pc' := 42) (dAt D91 25 rfl) rfl rfl hOx0 (hT.own hOx0 3 rfl) ?_
      refine e_iload_n (pc' := 43) (dAt D91 26 rfl) rfl rfl ?_
      refine e_aload_n (pc' := 44) (dAt D91 27 rfl) rfl rfl ?_
      refine e_getfield (pc' := 47) (dAt D91 28 rfl) rfl rfl hOx0 (hT.own hOx0 3 rfl) ?_
      refine e_iload_n (pc' := 48) (dAt D91 29 rfl) rfl rfl ?_
      refine e_iconst (pc' := 49) (v := 1) (dAt D91 30 rfl) rfl (by decide) ?_
      refine e_isub (pc' := 50) (dAt D91 31 rfl) rfl ?_
      obtain ⟨f1, h⟩ := h
      refine e_iaload (pc' := 51) (dAt D91 32 rfl) rfl (hT.arr hOx0 3 rfl (by decide)).1 (Or.inl (hT.arr hOx0 3 rfl (by decide)).2) f1 rfl ?_
      obtain ⟨f1, h⟩ := h
      replace h := h _ rfl
      refine e_iastore (pc' := 52) (dAt D91 33 rfl) rfl (hT.arr hOx0 3 rfl (by decide)).1 (hT.arr hOx0 3 rfl (by decide)).2 f1 (nar_i _) ?_
      refine wtI hT (fun hT_8 => ?_)
      replace h := h _ rfl
      refine e_iinc (pc' := 55) (dAt D91 34 rfl) rfl rfl (Nat.le_of_ble_eq_true rfl) (congrArg (_ + ·) (show Int32.ofInt (-1) = (-1 : Int32) by decide)) rfl ?_
      refine e_goto (t := 12) (dAt D91 35 rfl) ⟨by decide, by decide⟩ ?_
      exact h
-- PlaceNets$Flows.tell.(II)I, from 0
set_option maxRecDepth 20000 in
theorem bk93_0 {d b : Nat} {Q : Option Value → mMem → Prop} {m : mMem} {x0 : Nat} {x1 : Int32} {x2 : Int32} (hT : mWT m) (hOx0 : m.1 x0 = some (.inr 4) ∧ x0 ≠ 0)
    (h : (((x1 < 0) → (Q (some (.int ((-1)))) m)) ∧ (¬ (x1 < 0) → ((((iF m x0 1) ≤ x1) → (Q (some (.int ((-1)))) m)) ∧ (¬ ((iF m x0 1) ≤ x1) → (((x2 < 0) → (Q (some (.int ((-1)))) m)) ∧ (¬ (x2 < 0) → (((x2 < (iF m x0 11)) → (∃ (r_1 l_2 : Nat), (m.2.1 x0 4 = .ref r_1) ∧ ((m.1 r_1 = some (.inl (.int, l_2)) ∧ r_1 ≠ 0) ∧ ((mIn x1 300 = true) ∧ ((mIn (((m.2.2.1 (64 * x0 + 6) x1.toNatClampNeg) * 10) + x2) l_2 = true) ∧ (Q (some (.int (m.2.2.1 r_1 (((m.2.2.1 (64 * x0 + 6) x1.toNatClampNeg) * 10) + x2).toNatClampNeg))) m)))))) ∧ (¬ (x2 < (iF m x0 11)) → (Q (some (.int ((-1)))) m)))))))))) :
    mEs d 93 b g93 (0, [some (.ref x0), some (.int x1), some (.int x2)], [], m) Q := by
  refine e_iload_n (pc' := 1) (dAt D93 0 rfl) rfl rfl ?_
  refine e_if_lt (t := 24) (pc' := 4) (dAt D93 1 rfl) ⟨by decide, by decide⟩ rfl (fun c => ?_) (fun c => ?_)
  · replace h := h.1 c
    refine e_iconst (pc' := 25) (v := (-1)) (dAt D93 12 rfl) rfl (by decide) ?_
    exact e_ireturn (dAt D93 13 rfl) rfl ⟨rfl, fun e => by cases e⟩ h
  · replace h := h.2 c
    refine e_iload_n (pc' := 5) (dAt D93 2 rfl) rfl rfl ?_
    refine e_aload_n (pc' := 6) (dAt D93 3 rfl) rfl rfl ?_
    refine e_getfield (pc' := 9) (dAt D93 4 rfl) rfl rfl hOx0 (hT.int hOx0 1 (by decide)) ?_
    refine e_icmp_ge (t := 24) (pc' := 12) (dAt D93 5 rfl) ⟨by decide, by decide⟩ rfl (fun c => ?_) (fun c => ?_)
    · replace h := h.1 c
      refine e_iconst (pc' := 25) (v := (-1)) (dAt D93 12 rfl) rfl (by decide) ?_
      exact e_ireturn (dAt D93 13 rfl) rfl ⟨rfl, fun e => by cases e⟩ h
    · replace h := h.2 c
      refine e_iload_n (pc' := 13) (dAt D93 6 rfl) rfl rfl ?_
      refine e_if_lt (t := 24) (pc' := 16) (dAt D93 7 rfl) ⟨by decide, by decide⟩ rfl (fun c => ?_) (fun c => ?_)
      · replace h := h.1 c
        refine e_iconst (pc' := 25) (v := (-1)) (dAt D93 12 rfl) rfl (by decide) ?_
        exact e_ireturn (dAt D93 13 rfl) rfl ⟨rfl, fun e => by cases e⟩ h
      · replace h := h.2 c
        refine e_iload_n (pc' := 17) (dAt D93 8 rfl) rfl rfl ?_
        refine e_aload_n (pc' := 18) (dAt D93 9 rfl) rfl rfl ?_
        refine e_getfield (pc' := 21) (dAt D93 10 rfl) rfl rfl hOx0 (hT.int hOx0 11 (by decide)) ?_
        refine e_icmp_lt (t := 26) (pc' := 24) (dAt D93 11 rfl) ⟨by decide, by decide⟩ rfl (fun c => ?_) (fun c => ?_)
        · replace h := h.1 c
          refine e_aload_n (pc' := 27) (dAt D93 14 rfl) rfl rfl ?_
          obtain ⟨r_1, l_2, f1, f_3, h⟩ := h
          refine e_getfield (pc' := 30) (dAt D93 15 rfl) rfl rfl hOx0 f1 ?_
          refine e_aload_n (pc' := 31) (dAt D93 16 rfl) rfl rfl ?_
          refine e_getfield (pc' := 34) (dAt D93 17 rfl) rfl rfl hOx0 (hT.own hOx0 3 rfl) ?_
          refine e_iload_n (pc' := 35) (dAt D93 18 rfl) rfl rfl ?_
          obtain ⟨f1, h⟩ := h
          refine e_iaload (pc' := 36) (dAt D93 19 rfl) rfl (hT.arr hOx0 3 rfl (by decide)).1 (Or.inl (hT.arr hOx0 3 rfl (by decide)).2) f1 rfl ?_
          refine e_bipush (pc' := 38) (v := 10) (dAt D93 20 rfl) rfl (by decide) ?_
          refine e_imul (pc' := 39) (dAt D93 21 rfl) rfl ?_
          refine e_iload_n (pc' := 40) (dAt D93 22 rfl) rfl rfl ?_
          refine e_iadd (pc' := 41) (dAt D93 23 rfl) rfl ?_
          obtain ⟨f1, h⟩ := h
          refine e_iaload (pc' := 42) (dAt D93 24 rfl) rfl f_3.1 (Or.inl f_3.2) f1 rfl ?_
          exact e_ireturn (dAt D93 25 rfl) rfl ⟨rfl, fun e => by cases e⟩ h
        · replace h := h.2 c
          refine e_iconst (pc' := 25) (v := (-1)) (dAt D93 12 rfl) rfl (by decide) ?_
          exact e_ireturn (dAt D93 13 rfl) rfl ⟨rfl, fun e => by cases e⟩ h
-- PlaceNets$Flows.weigh.(I[I)I, from 0
set_option maxRecDepth 20000 in
theorem bk95_0 {d b : Nat} {Q : Option Value → mMem → Prop} {m : mMem} {x0 : Nat} {x1 : Int32} {x2 : Nat} {lx2 : Nat} {x3 : Option Value} {x4 : Option Value} {x5 : Option Value} (hT : mWT m) (hOx0 : m.1 x0 = some (.inr 4) ∧ x0 ≠ 0) (hAx2 : m.1 x2 = some (.inl (.int, lx2)) ∧ x2 ≠ 0)
    (h : (((x1 < 0) → (Q (some (.int ((-1)))) m)) ∧ (¬ (x1 < 0) → (((x1 < (iF m x0 1)) → (mEs d 95 b g95 (19, [some (.ref x0), some (.int x1), some (.ref x2), some (.long 0), none, some (.int 0)], [], m) Q)) ∧ (¬ (x1 < (iF m x0 1)) → (Q (some (.int ((-1)))) m)))))) :
    mEs d 95 b g95 (0, [some (.ref x0), some (.int x1), some (.ref x2), x3, x4, x5], [], m) Q := by
  refine e_iload_n (pc' := 1) (dAt D95 0 rfl) rfl rfl ?_
  refine e_if_lt (t := 12) (pc' := 4) (dAt D95 1 rfl) ⟨by decide, by decide⟩ rfl (fun c => ?_) (fun c => ?_)
  · replace h := h.1 c
    refine e_iconst (pc' := 13) (v := (-1)) (dAt D95 6 rfl) rfl (by decide) ?_
    exact e_ireturn (dAt D95 7 rfl) rfl ⟨rfl, fun e => by cases e⟩ h
  · replace h := h.2 c
    refine e_iload_n (pc' := 5) (dAt D95 2 rfl) rfl rfl ?_
    refine e_aload_n (pc' := 6) (dAt D95 3 rfl) rfl rfl ?_
    refine e_getfield (pc' := 9) (dAt D95 4 rfl) rfl rfl hOx0 (hT.int hOx0 1 (by decide)) ?_
    refine e_icmp_lt (t := 14) (pc' := 12) (dAt D95 5 rfl) ⟨by decide, by decide⟩ rfl (fun c => ?_) (fun c => ?_)
    · replace h := h.1 c
      refine e_lconst (pc' := 15) (v := 0) (dAt D95 8 rfl) rfl (by decide) ?_
      refine e_lstore_n (pc' := 16) (dAt D95 9 rfl) rfl (Nat.le_of_ble_eq_true rfl) rfl ?_
      refine e_iconst (pc' := 17) (v := 0) (dAt D95 10 rfl) rfl (by decide) ?_
      refine e_istore (pc' := 19) (dAt D95 11 rfl) rfl (Nat.le_of_ble_eq_true rfl) rfl ?_
      exact h
    · replace h := h.2 c
      refine e_iconst (pc' := 13) (v := (-1)) (dAt D95 6 rfl) rfl (by decide) ?_
      exact e_ireturn (dAt D95 7 rfl) rfl ⟨rfl, fun e => by cases e⟩ h
-- PlaceNets$Flows.weigh.(I[I)I, from 19
set_option maxRecDepth 20000 in
theorem bk95_19 {d b : Nat} {Q : Option Value → mMem → Prop} {m : mMem} {x0 : Nat} {x1 : Int32} {x2 : Nat} {lx2 : Nat} {x3 : Int64} {x5 : Int32} (hT : mWT m) (hOx0 : m.1 x0 = some (.inr 4) ∧ x0 ≠ 0) (hAx2 : m.1 x2 = some (.inl (.int, lx2)) ∧ x2 ≠ 0) (hd1 : 1 ≤ d)
    (h : ((((iF m x0 11) ≤ x5) → (Q (some (.int ((if 2147483647 < x3 then 2147483647 else x3).toInt32))) m)) ∧ (¬ ((iF m x0 11) ≤ x5) → (∃ (r_1 l_2 : Nat), (m.2.1 x0 4 = .ref r_1) ∧ ((m.1 r_1 = some (.inl (.int, l_2)) ∧ r_1 ≠ 0) ∧ ((mIn x1 300 = true) ∧ ((mIn (((m.2.2.1 (64 * x0 + 6) x1.toNatClampNeg) * 10) + x5) l_2 = true) ∧ ((mIn x5 lx2 = true) ∧ (∀ (v_4 : Int64), v_4 = (x3 + (((m.2.2.1 r_1 (((m.2.2.1 (64 * x0 + 6) x1.toNatClampNeg) * 10) + x5).toNatClampNeg).toInt64) * ((m.2.2.1 x2 x5.toNatClampNeg).toInt64))) → ∀ (v_5 : Int32), v_5 = (x5 + 1) → mEs d 95 b g95 (19, [some (.ref x0), some (.int x1), some (.ref x2), some (.long v_4), none, some (.int v_5)], [], m) Q))))))))) :
    mEs d 95 b g95 (19, [some (.ref x0), some (.int x1), some (.ref x2), some (.long x3), none, some (.int x5)], [], m) Q := by
  refine e_iload (pc' := 21) (dAt D95 12 rfl) rfl rfl ?_
  refine e_aload_n (pc' := 22) (dAt D95 13 rfl) rfl rfl ?_
  refine e_getfield (pc' := 25) (dAt D95 14 rfl) rfl rfl hOx0 (hT.int hOx0 11 (by decide)) ?_
  refine e_icmp_ge (t := 61) (pc' := 28) (dAt D95 15 rfl) ⟨by decide, by decide⟩ rfl (fun c => ?_) (fun c => ?_)
  · replace h := h.1 c
    refine e_lload_n (pc' := 62) (dAt D95 38 rfl) rfl rfl ?_
    refine e_ldc2_w (pc' := 65) (dAt D95 39 rfl) rfl rfl ?_
    refine e_minL (pc' := 68) (dAt D95 40 rfl) rfl rfl ⟨hd1, Nat.le_of_ble_eq_true rfl⟩ ?_
    refine e_l2i (pc' := 69) (dAt D95 41 rfl) rfl ?_
    exact e_ireturn (dAt D95 42 rfl) rfl ⟨rfl, fun e => by cases e⟩ h
  · replace h := h.2 c
    refine e_lload_n (pc' := 29) (dAt D95 16 rfl) rfl rfl ?_
    refine e_aload_n (pc' := 30) (dAt D95 17 rfl) rfl rfl ?_
    obtain ⟨r_1, l_2, f1, f_3, h⟩ := h
    refine e_getfield (pc' := 33) (dAt D95 18 rfl) rfl rfl hOx0 f1 ?_
    refine e_aload_n (pc' := 34) (dAt D95 19 rfl) rfl rfl ?_
    refine e_getfield (pc' := 37) (dAt D95 20 rfl) rfl rfl hOx0 (hT.own hOx0 3 rfl) ?_
    refine e_iload_n (pc' := 38) (dAt D95 21 rfl) rfl rfl ?_
    obtain ⟨f1, h⟩ := h
    refine e_iaload (pc' := 39) (dAt D95 22 rfl) rfl (hT.arr hOx0 3 rfl (by decide)).1 (Or.inl (hT.arr hOx0 3 rfl (by decide)).2) f1 rfl ?_
    refine e_bipush (pc' := 41) (v := 10) (dAt D95 23 rfl) rfl (by decide) ?_
    refine e_imul (pc' := 42) (dAt D95 24 rfl) rfl ?_
    refine e_iload (pc' := 44) (dAt D95 25 rfl) rfl rfl ?_
    refine e_iadd (pc' := 45) (dAt D95 26 rfl) rfl ?_
    obtain ⟨f1, h⟩ := h
    refine e_iaload (pc' := 46) (dAt D95 27 rfl) rfl f_3.1 (Or.inl f_3.2) f1 rfl ?_
    refine e_i2l (pc' := 47) (dAt D95 28 rfl) rfl ?_
    refine e_aload_n (pc' := 48) (dAt D95 29 rfl) rfl rfl ?_
    refine e_iload (pc' := 50) (dAt D95 30 rfl) rfl rfl ?_
    obtain ⟨f1, h⟩ := h
    refine e_iaload (pc' := 51) (dAt D95 31 rfl) rfl hAx2.1 (Or.inl hAx2.2) f1 rfl ?_
    refine e_i2l (pc' := 52) (dAt D95 32 rfl) rfl ?_
    refine e_lmul (pc' := 53) (dAt D95 33 rfl) rfl ?_
    refine e_ladd (pc' := 54) (dAt D95 34 rfl) rfl ?_
    replace h := h _ rfl
    refine e_lstore_n (pc' := 55) (dAt D95 35 rfl) rfl (Nat.le_of_ble_eq_true rfl) rfl ?_
    replace h := h _ rfl
    refine e_iinc (pc' := 58) (dAt D95 36 rfl) rfl rfl (Nat.le_of_ble_eq_true rfl) (congrArg (_ + ·) (show Int32.ofInt (1) = (1 : Int32) by decide)) rfl ?_
    refine e_goto (t := 19) (dAt D95 37 rfl) ⟨by decide, by decide⟩ ?_
    exact h
