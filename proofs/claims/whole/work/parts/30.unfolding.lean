abbrev g123 : mG := (⟨"PlaceNets$Unfolding", "build", "(LPlaceNets$Net;[I)V"⟩, prog_8_method_2_code, 4, none, 8, 3, 7, false)
theorem G123 : mGm[123]? = some g123 := rfl
def tb123 : List (Nat × Instr × Nat) := [(0, .aload_n 0, 1), (1, .iconst (0), 1), (2, .putfield 52, 3), (5, .aload_n 0, 1), (6, .iconst (0), 1), (7, .putfield 56, 3), (10, .aload_n 0, 1), (11, .aload_n 1, 1), (12, .getfield 59, 3), (15, .putfield 64, 3), (18, .aload_n 2, 1), (19, .iconst (0), 1), (20, .aload_n 0, 1), (21, .getfield 40, 3), (24, .iconst (0), 1), (25, .bipush (10), 2), (27, .invokestatic 65, 3), (30, .aload_n 0, 1), (31, .aload_n 0, 1), (32, .aload_n 1, 1), (33, .invokevirtual 71, 3), (36, .putfield 75, 3), (39, .aload_n 0, 1), (40, .getfield 49, 3), (43, .iconst (0), 1), (44, .invokestatic 79, 3), (47, .iconst (0), 1), (48, .istore_n 3, 1), (49, .iload_n 3, 1), (50, .aload_n 0, 1), (51, .getfield 64, 3), (54, .if_icmp .ge (25), 3), (57, .aload_n 0, 1), (58, .getfield 75, 3), (61, .ifCond .ne (18), 3), (64, .aload_n 0, 1), (65, .iload_n 3, 1), (66, .aload_n 2, 1), (67, .iload_n 3, 1), (68, .iaload, 1), (69, .iconst (-1), 1), (70, .invokevirtual 85, 3), (73, .iinc 3 (1), 3), (76, .goto (-27), 3), (79, .iconst (1), 1), (80, .istore_n 3, 1), (81, .iload_n 3, 1), (82, .bipush (31), 2), (84, .if_icmp .gt (32), 3), (87, .iload_n 3, 1), (88, .aload_n 0, 1), (89, .getfield 52, 3), (92, .iconst (1), 1), (93, .iadd, 1), (94, .if_icmp .gt (22), 3), (97, .aload_n 0, 1), (98, .getfield 75, 3), (101, .ifCond .ne (15), 3), (104, .aload_n 0, 1), (105, .aload_n 1, 1), (106, .iload_n 3, 1), (107, .invokevirtual 89, 3), (110, .iinc 3 (1), 3), (113, .goto (-32), 3), (116, .return_, 1)]
set_option maxRecDepth 20000 in
theorem D123 : tb123.all (dOk prog_8_method_2_code) = true := by decide +kernel
abbrev g124 : mG := (⟨"PlaceNets$Unfolding", "isTooGreat", "(LPlaceNets$Net;)Z"⟩, prog_8_method_4_code, 5, (some .boolean), 8, 2, 7, false)
theorem G124 : mGm[124]? = some g124 := rfl
def tb124 : List (Nat × Instr × Nat) := [(0, .iconst (0), 1), (1, .istore_n 2, 1), (2, .iconst (0), 1), (3, .istore_n 3, 1), (4, .iload_n 3, 1), (5, .aload_n 0, 1), (6, .getfield 64, 3), (9, .if_icmp .ge (18), 3), (12, .iload_n 2, 1), (13, .aload_n 0, 1), (14, .getfield 40, 3), (17, .iload_n 3, 1), (18, .iaload, 1), (19, .iadd, 1), (20, .istore_n 2, 1), (21, .iinc 3 (1), 3), (24, .goto (-20), 3), (27, .iload_n 2, 1), (28, .bipush (12), 2), (30, .if_icmp .le (7), 3), (33, .iconst (1), 1), (34, .goto (4), 3), (37, .iconst (0), 1), (38, .istore_n 3, 1), (39, .iconst (0), 1), (40, .istore 4, 2), (42, .iload 4, 2), (44, .aload_n 1, 1), (45, .getfield 99, 3), (48, .if_icmp .ge (29), 3), (51, .iload_n 3, 1), (52, .ifCond .ne (13), 3), (55, .aload_n 1, 1), (56, .iload 4, 2), (58, .invokevirtual 105, 3), (61, .iconst (3), 1), (62, .if_icmp .le (7), 3), (65, .iconst (1), 1), (66, .goto (4), 3), (69, .iconst (0), 1), (70, .istore_n 3, 1), (71, .iinc 4 (1), 3), (74, .goto (-32), 3), (77, .iload_n 3, 1), (78, .ireturn, 1)]
set_option maxRecDepth 20000 in
theorem D124 : tb124.all (dOk prog_8_method_4_code) = true := by decide +kernel
abbrev g126 : mG := (⟨"PlaceNets$Unfolding", "addConditions", "(III)V"⟩, prog_8_method_5_code, 5, none, 8, 4, 7, false)
theorem G126 : mGm[126]? = some g126 := rfl
def tb126 : List (Nat × Instr × Nat) := [(0, .iconst (0), 1), (1, .istore 4, 2), (3, .iload 4, 2), (5, .iload_n 2, 1), (6, .if_icmp .ge (72), 3), (9, .aload_n 0, 1), (10, .getfield 75, 3), (13, .ifCond .ne (65), 3), (16, .aload_n 0, 1), (17, .getfield 56, 3), (20, .bipush (80), 2), (22, .if_icmp .lt (11), 3), (25, .aload_n 0, 1), (26, .iconst (1), 1), (27, .putfield 75, 3), (30, .goto (42), 3), (33, .aload_n 0, 1), (34, .getfield 31, 3), (37, .aload_n 0, 1), (38, .getfield 56, 3), (41, .iload_n 1, 1), (42, .iastore, 1), (43, .aload_n 0, 1), (44, .getfield 34, 3), (47, .aload_n 0, 1), (48, .getfield 56, 3), (51, .iload_n 3, 1), (52, .iastore, 1), (53, .aload_n 0, 1), (54, .aload_n 0, 1), (55, .getfield 56, 3), (58, .iload_n 3, 1), (59, .invokevirtual 113, 3), (62, .aload_n 0, 1), (63, .dup, 1), (64, .getfield 56, 3), (67, .iconst (1), 1), (68, .iadd, 1), (69, .putfield 56, 3), (72, .iinc 4 (1), 3), (75, .goto (-72), 3), (78, .return_, 1)]
set_option maxRecDepth 20000 in
theorem D126 : tb126.all (dOk prog_8_method_5_code) = true := by decide +kernel
abbrev g127 : mG := (⟨"PlaceNets$Unfolding", "joinOthers", "(II)V"⟩, prog_8_method_6_code, 4, none, 8, 3, 7, false)
theorem G127 : mGm[127]? = some g127 := rfl
def tb127 : List (Nat × Instr × Nat) := [(0, .aload_n 0, 1), (1, .getfield 37, 3), (4, .iload_n 1, 1), (5, .iconst (3), 1), (6, .imul, 1), (7, .iload_n 1, 1), (8, .iconst (3), 1), (9, .imul, 1), (10, .iconst (3), 1), (11, .iadd, 1), (12, .iconst (0), 1), (13, .invokestatic 117, 3), (16, .iconst (0), 1), (17, .istore_n 3, 1), (18, .iload_n 3, 1), (19, .iload_n 1, 1), (20, .if_icmp .ge (80), 3), (23, .aload_n 0, 1), (24, .getfield 34, 3), (27, .iload_n 3, 1), (28, .iaload, 1), (29, .iload_n 2, 1), (30, .if_icmp .eq (22), 3), (33, .aload_n 0, 1), (34, .getfield 49, 3), (37, .iload_n 3, 1), (38, .iconst (5), 1), (39, .ishr, 1), (40, .iaload, 1), (41, .iload_n 3, 1), (42, .bipush (31), 2), (44, .iand, 1), (45, .iushr, 1), (46, .iconst (1), 1), (47, .iand, 1), (48, .iconst (1), 1), (49, .if_icmp .ne (45), 3), (52, .aload_n 0, 1), (53, .getfield 37, 3), (56, .iload_n 1, 1), (57, .iconst (3), 1), (58, .imul, 1), (59, .iload_n 3, 1), (60, .iconst (5), 1), (61, .ishr, 1), (62, .iadd, 1), (63, .dup2, 1), (64, .iaload, 1), (65, .iconst (1), 1), (66, .iload_n 3, 1), (67, .bipush (31), 2), (69, .iand, 1), (70, .ishl, 1), (71, .ior, 1), (72, .iastore, 1), (73, .aload_n 0, 1), (74, .getfield 37, 3), (77, .iload_n 3, 1), (78, .iconst (3), 1), (79, .imul, 1), (80, .iload_n 1, 1), (81, .iconst (5), 1), (82, .ishr, 1), (83, .iadd, 1), (84, .dup2, 1), (85, .iaload, 1), (86, .iconst (1), 1), (87, .iload_n 1, 1), (88, .bipush (31), 2), (90, .iand, 1), (91, .ishl, 1), (92, .ior, 1), (93, .iastore, 1), (94, .iinc 3 (1), 3), (97, .goto (-79), 3), (100, .return_, 1)]
set_option maxRecDepth 20000 in
theorem D127 : tb127.all (dOk prog_8_method_6_code) = true := by decide +kernel
abbrev g130 : mG := (⟨"PlaceNets$Unfolding", "findEvents", "(LPlaceNets$Net;I)V"⟩, prog_8_method_3_code, 4, none, 8, 3, 7, false)
theorem G130 : mGm[130]? = some g130 := rfl
def tb130 : List (Nat × Instr × Nat) := [(0, .aload_n 0, 1), (1, .iload_n 2, 1), (2, .putfield 93, 3), (5, .aload_n 0, 1), (6, .aload_n 0, 1), (7, .getfield 56, 3), (10, .putfield 96, 3), (13, .iconst (0), 1), (14, .istore_n 3, 1), (15, .iload_n 3, 1), (16, .aload_n 1, 1), (17, .getfield 99, 3), (20, .if_icmp .ge (47), 3), (23, .aload_n 0, 1), (24, .getfield 75, 3), (27, .ifCond .ne (40), 3), (30, .aload_n 1, 1), (31, .getfield 102, 3), (34, .iload_n 3, 1), (35, .bipush (10), 2), (37, .imul, 1), (38, .aload_n 0, 1), (39, .getfield 43, 3), (42, .iconst (0), 1), (43, .bipush (10), 2), (45, .invokestatic 65, 3), (48, .aload_n 0, 1), (49, .aload_n 1, 1), (50, .iload_n 3, 1), (51, .aload_n 1, 1), (52, .iload_n 3, 1), (53, .invokevirtual 105, 3), (56, .iconst (0), 1), (57, .iconst (0), 1), (58, .invokevirtual 109, 3), (61, .iinc 3 (1), 3), (64, .goto (-49), 3), (67, .return_, 1)]
set_option maxRecDepth 20000 in
theorem D130 : tb130.all (dOk prog_8_method_3_code) = true := by decide +kernel
abbrev g131 : mG := (⟨"PlaceNets$Unfolding", "pick", "(LPlaceNets$Net;IIII)V"⟩, prog_8_method_9_code, 8, none, 8, 6, 7, false)
theorem G131 : mGm[131]? = some g131 := rfl
def tb131 : List (Nat × Instr × Nat) := [(0, .iload 4, 2), (2, .iload_n 3, 1), (3, .if_icmp .ge (9), 3), (6, .iload 4, 2), (8, .iconst (3), 1), (9, .if_icmp .lt (31), 3), (12, .iload_n 3, 1), (13, .ifCond .le (26), 3), (16, .iload 5, 2), (18, .invokestatic 120, 3), (21, .iconst (1), 1), (22, .iadd, 1), (23, .aload_n 0, 1), (24, .getfield 93, 3), (27, .if_icmp .ne (12), 3), (30, .aload_n 0, 1), (31, .aload_n 1, 1), (32, .iload_n 2, 1), (33, .iload_n 3, 1), (34, .iload 5, 2), (36, .invokevirtual 125, 3), (39, .return_, 1), (40, .iload 4, 2), (42, .ifCond .ne (7), 3), (45, .iconst (0), 1), (46, .goto (14), 3), (49, .aload_n 0, 1), (50, .getfield 46, 3), (53, .iload 4, 2), (55, .iconst (1), 1), (56, .isub, 1), (57, .iaload, 1), (58, .iconst (1), 1), (59, .iadd, 1), (60, .istore 6, 2), (62, .iload 6, 2), (64, .istore 7, 2), (66, .iload 7, 2), (68, .aload_n 0, 1), (69, .getfield 96, 3), (72, .if_icmp .ge (88), 3), (75, .aload_n 0, 1), (76, .getfield 75, 3), (79, .ifCond .ne (81), 3), (82, .aload_n 0, 1), (83, .iload 7, 2), (85, .iload 4, 2), (87, .invokevirtual 129, 3), (90, .ifCond .eq (64), 3), (93, .aload_n 0, 1), (94, .getfield 46, 3), (97, .iload 4, 2), (99, .iload 7, 2), (101, .iastore, 1), (102, .aload_n 0, 1), (103, .getfield 43, 3), (106, .aload_n 0, 1), (107, .getfield 31, 3), (110, .iload 7, 2), (112, .iaload, 1), (113, .dup2, 1), (114, .iaload, 1), (115, .iconst (1), 1), (116, .isub, 1), (117, .iastore, 1), (118, .aload_n 0, 1), (119, .aload_n 1, 1), (120, .iload_n 2, 1), (121, .iload_n 3, 1), (122, .iload 4, 2), (124, .iconst (1), 1), (125, .iadd, 1), (126, .iload 5, 2), (128, .aload_n 0, 1), (129, .iload 7, 2), (131, .invokevirtual 133, 3), (134, .ior, 1), (135, .invokevirtual 109, 3), (138, .aload_n 0, 1), (139, .getfield 43, 3), (142, .aload_n 0, 1), (143, .getfield 31, 3), (146, .iload 7, 2), (148, .iaload, 1), (149, .dup2, 1), (150, .iaload, 1), (151, .iconst (1), 1), (152, .iadd, 1), (153, .iastore, 1), (154, .iinc 7 (1), 3), (157, .goto (-91), 3), (160, .return_, 1)]
set_option maxRecDepth 20000 in
theorem D131 : tb131.all (dOk prog_8_method_9_code) = true := by decide +kernel
abbrev g132 : mG := (⟨"PlaceNets$Unfolding", "addEvent", "(LPlaceNets$Net;III)V"⟩, prog_8_method_12_code, 7, none, 8, 5, 7, false)
theorem G132 : mGm[132]? = some g132 := rfl
def tb132 : List (Nat × Instr × Nat) := [(0, .aload_n 0, 1), (1, .getfield 52, 3), (4, .bipush (30), 2), (6, .if_icmp .lt (9), 3), (9, .aload_n 0, 1), (10, .iconst (1), 1), (11, .putfield 75, 3), (14, .return_, 1), (15, .aload_n 0, 1), (16, .getfield 52, 3), (19, .istore 5, 2), (21, .aload_n 0, 1), (22, .dup, 1), (23, .getfield 52, 3), (26, .iconst (1), 1), (27, .iadd, 1), (28, .putfield 52, 3), (31, .aload_n 0, 1), (32, .getfield 15, 3), (35, .iload 5, 2), (37, .iload_n 2, 1), (38, .iastore, 1), (39, .aload_n 0, 1), (40, .getfield 18, 3), (43, .iload 5, 2), (45, .iload 4, 2), (47, .iconst (1), 1), (48, .iload 5, 2), (50, .ishl, 1), (51, .ior, 1), (52, .iastore, 1), (53, .aload_n 0, 1), (54, .getfield 28, 3), (57, .iload 5, 2), (59, .iload_n 3, 1), (60, .iastore, 1), (61, .aload_n 0, 1), (62, .getfield 46, 3), (65, .iconst (0), 1), (66, .aload_n 0, 1), (67, .getfield 25, 3), (70, .iload 5, 2), (72, .iconst (3), 1), (73, .imul, 1), (74, .iload_n 3, 1), (75, .invokestatic 65, 3), (78, .aload_n 0, 1), (79, .aload_n 1, 1), (80, .iload 5, 2), (82, .invokevirtual 139, 3), (85, .aload_n 0, 1), (86, .getfield 21, 3), (89, .iload 5, 2), (91, .aload_n 0, 1), (92, .iload 5, 2), (94, .invokevirtual 142, 3), (97, .bastore, 1), (98, .aload_n 0, 1), (99, .iload_n 3, 1), (100, .invokevirtual 146, 3), (103, .iconst (0), 1), (104, .istore 6, 2), (106, .iload 6, 2), (108, .aload_n 0, 1), (109, .getfield 64, 3), (112, .if_icmp .ge (29), 3), (115, .aload_n 0, 1), (116, .iload 6, 2), (118, .aload_n 1, 1), (119, .getfield 150, 3), (122, .iload_n 2, 1), (123, .bipush (10), 2), (125, .imul, 1), (126, .iload 6, 2), (128, .iadd, 1), (129, .iaload, 1), (130, .iload 5, 2), (132, .invokevirtual 85, 3), (135, .iinc 6 (1), 3), (138, .goto (-32), 3), (141, .return_, 1)]
set_option maxRecDepth 20000 in
theorem D132 : tb132.all (dOk prog_8_method_12_code) = true := by decide +kernel
abbrev g133 : mG := (⟨"PlaceNets$Unfolding", "leave", "(LPlaceNets$Net;I)V"⟩, prog_8_method_13_code, 6, none, 8, 3, 7, false)
theorem G133 : mGm[133]? = some g133 := rfl
def tb133 : List (Nat × Instr × Nat) := [(0, .iconst (0), 1), (1, .istore_n 3, 1), (2, .iload_n 3, 1), (3, .aload_n 0, 1), (4, .getfield 64, 3), (7, .if_icmp .ge (77), 3), (10, .aload_n 0, 1), (11, .getfield 40, 3), (14, .iload_n 3, 1), (15, .iaload, 1), (16, .istore 4, 2), (18, .iconst (0), 1), (19, .istore 5, 2), (21, .iload 5, 2), (23, .iload_n 2, 1), (24, .if_icmp .gt (41), 3), (27, .aload_n 0, 1), (28, .getfield 18, 3), (31, .iload_n 2, 1), (32, .iaload, 1), (33, .iload 5, 2), (35, .ishr, 1), (36, .iconst (1), 1), (37, .iand, 1), (38, .iconst (1), 1), (39, .if_icmp .ne (20), 3), (42, .iload 4, 2), (44, .aload_n 1, 1), (45, .aload_n 0, 1), (46, .getfield 15, 3), (49, .iload 5, 2), (51, .iaload, 1), (52, .iload_n 3, 1), (53, .invokevirtual 153, 3), (56, .iadd, 1), (57, .istore 4, 2), (59, .iinc 5 (1), 3), (62, .goto (-41), 3), (65, .aload_n 0, 1), (66, .getfield 11, 3), (69, .iload_n 2, 1), (70, .bipush (10), 2), (72, .imul, 1), (73, .iload_n 3, 1), (74, .iadd, 1), (75, .iload 4, 2), (77, .iastore, 1), (78, .iinc 3 (1), 3), (81, .goto (-79), 3), (84, .return_, 1)]
set_option maxRecDepth 20000 in
theorem D133 : tb133.all (dOk prog_8_method_13_code) = true := by decide +kernel
abbrev g134 : mG := (⟨"PlaceNets$Unfolding", "isCut", "(I)Z"⟩, prog_8_method_14_code, 3, (some .boolean), 8, 2, 7, false)
theorem G134 : mGm[134]? = some g134 := rfl
def tb134 : List (Nat × Instr × Nat) := [(0, .aload_n 0, 1), (1, .iload_n 1, 1), (2, .aload_n 0, 1), (3, .getfield 40, 3), (6, .iconst (0), 1), (7, .invokevirtual 157, 3), (10, .ifCond .eq (5), 3), (13, .iconst (1), 1), (14, .ireturn, 1), (15, .iconst (0), 1), (16, .istore_n 2, 1), (17, .iload_n 2, 1), (18, .iload_n 1, 1), (19, .if_icmp .ge (48), 3), (22, .aload_n 0, 1), (23, .getfield 18, 3), (26, .iload_n 2, 1), (27, .iaload, 1), (28, .invokestatic 120, 3), (31, .aload_n 0, 1), (32, .getfield 18, 3), (35, .iload_n 1, 1), (36, .iaload, 1), (37, .invokestatic 120, 3), (40, .if_icmp .ge (21), 3), (43, .aload_n 0, 1), (44, .iload_n 1, 1), (45, .aload_n 0, 1), (46, .getfield 11, 3), (49, .iload_n 2, 1), (50, .bipush (10), 2), (52, .imul, 1), (53, .invokevirtual 157, 3), (56, .ifCond .eq (5), 3), (59, .iconst (1), 1), (60, .ireturn, 1), (61, .iinc 2 (1), 3), (64, .goto (-47), 3), (67, .iconst (0), 1), (68, .ireturn, 1)]
set_option maxRecDepth 20000 in
theorem D134 : tb134.all (dOk prog_8_method_14_code) = true := by decide +kernel
abbrev g135 : mG := (⟨"PlaceNets$Unfolding", "isLeft", "(I[II)Z"⟩, prog_8_method_15_code, 5, (some .boolean), 8, 4, 7, false)
theorem G135 : mGm[135]? = some g135 := rfl
def tb135 : List (Nat × Instr × Nat) := [(0, .iconst (0), 1), (1, .istore 4, 2), (3, .iload 4, 2), (5, .aload_n 0, 1), (6, .getfield 64, 3), (9, .if_icmp .ge (32), 3), (12, .aload_n 0, 1), (13, .getfield 11, 3), (16, .iload_n 1, 1), (17, .bipush (10), 2), (19, .imul, 1), (20, .iload 4, 2), (22, .iadd, 1), (23, .iaload, 1), (24, .aload_n 2, 1), (25, .iload_n 3, 1), (26, .iload 4, 2), (28, .iadd, 1), (29, .iaload, 1), (30, .if_icmp .eq (5), 3), (33, .iconst (0), 1), (34, .ireturn, 1), (35, .iinc 4 (1), 3), (38, .goto (-35), 3), (41, .iconst (1), 1), (42, .ireturn, 1)]
set_option maxRecDepth 20000 in
theorem D135 : tb135.all (dOk prog_8_method_15_code) = true := by decide +kernel
abbrev g136 : mG := (⟨"PlaceNets$Unfolding", "gatherBeside", "(I)V"⟩, prog_8_method_7_code, 4, none, 8, 2, 7, false)
theorem G136 : mGm[136]? = some g136 := rfl
def tb136 : List (Nat × Instr × Nat) := [(0, .aload_n 0, 1), (1, .getfield 49, 3), (4, .iconst (-1), 1), (5, .invokestatic 79, 3), (8, .iconst (0), 1), (9, .istore_n 2, 1), (10, .iload_n 2, 1), (11, .iload_n 1, 1), (12, .if_icmp .ge (46), 3), (15, .iconst (0), 1), (16, .istore_n 3, 1), (17, .iload_n 3, 1), (18, .iconst (3), 1), (19, .if_icmp .ge (33), 3), (22, .aload_n 0, 1), (23, .getfield 49, 3), (26, .iload_n 3, 1), (27, .dup2, 1), (28, .iaload, 1), (29, .aload_n 0, 1), (30, .getfield 37, 3), (33, .aload_n 0, 1), (34, .getfield 46, 3), (37, .iload_n 2, 1), (38, .iaload, 1), (39, .iconst (3), 1), (40, .imul, 1), (41, .iload_n 3, 1), (42, .iadd, 1), (43, .iaload, 1), (44, .iand, 1), (45, .iastore, 1), (46, .iinc 3 (1), 3), (49, .goto (-32), 3), (52, .iinc 2 (1), 3), (55, .goto (-45), 3), (58, .return_, 1)]
set_option maxRecDepth 20000 in
theorem D136 : tb136.all (dOk prog_8_method_7_code) = true := by decide +kernel
abbrev g137 : mG := (⟨"PlaceNets$Unfolding", "pastOf", "(I)I"⟩, prog_8_method_10_code, 2, (some .int), 8, 2, 7, false)
theorem G137 : mGm[137]? = some g137 := rfl
def tb137 : List (Nat × Instr × Nat) := [(0, .aload_n 0, 1), (1, .getfield 34, 3), (4, .iload_n 1, 1), (5, .iaload, 1), (6, .iconst (-1), 1), (7, .if_icmp .ne (7), 3), (10, .iconst (0), 1), (11, .goto (14), 3), (14, .aload_n 0, 1), (15, .getfield 18, 3), (18, .aload_n 0, 1), (19, .getfield 34, 3), (22, .iload_n 1, 1), (23, .iaload, 1), (24, .iaload, 1), (25, .ireturn, 1)]
set_option maxRecDepth 20000 in
theorem D137 : tb137.all (dOk prog_8_method_10_code) = true := by decide +kernel
abbrev g138 : mG := (⟨"PlaceNets$Unfolding", "isFit", "(II)Z"⟩, prog_8_method_11_code, 4, (some .boolean), 8, 3, 7, false)
theorem G138 : mGm[138]? = some g138 := rfl
def tb138 : List (Nat × Instr × Nat) := [(0, .aload_n 0, 1), (1, .getfield 43, 3), (4, .aload_n 0, 1), (5, .getfield 31, 3), (8, .iload_n 1, 1), (9, .iaload, 1), (10, .iaload, 1), (11, .ifCond .eq (27), 3), (14, .aload_n 0, 1), (15, .getfield 34, 3), (18, .iload_n 1, 1), (19, .iaload, 1), (20, .iconst (-1), 1), (21, .if_icmp .eq (19), 3), (24, .aload_n 0, 1), (25, .getfield 21, 3), (28, .aload_n 0, 1), (29, .getfield 34, 3), (32, .iload_n 1, 1), (33, .iaload, 1), (34, .baload, 1), (35, .ifCond .eq (5), 3), (38, .iconst (0), 1), (39, .ireturn, 1), (40, .iconst (0), 1), (41, .istore_n 3, 1), (42, .iload_n 3, 1), (43, .iload_n 2, 1), (44, .if_icmp .ge (25), 3), (47, .aload_n 0, 1), (48, .aload_n 0, 1), (49, .getfield 46, 3), (52, .iload_n 3, 1), (53, .iaload, 1), (54, .iload_n 1, 1), (55, .invokevirtual 136, 3), (58, .ifCond .ne (5), 3), (61, .iconst (0), 1), (62, .ireturn, 1), (63, .iinc 3 (1), 3), (66, .goto (-24), 3), (69, .iconst (1), 1), (70, .ireturn, 1)]
set_option maxRecDepth 20000 in
theorem D138 : tb138.all (dOk prog_8_method_11_code) = true := by decide +kernel
abbrev g139 : mG := (⟨"PlaceNets$Unfolding", "areTogether", "(II)Z"⟩, prog_8_method_8_code, 3, (some .boolean), 8, 3, 7, false)
theorem G139 : mGm[139]? = some g139 := rfl
def tb139 : List (Nat × Instr × Nat) := [(0, .aload_n 0, 1), (1, .getfield 37, 3), (4, .iload_n 1, 1), (5, .iconst (3), 1), (6, .imul, 1), (7, .iload_n 2, 1), (8, .iconst (5), 1), (9, .ishr, 1), (10, .iadd, 1), (11, .iaload, 1), (12, .iload_n 2, 1), (13, .bipush (31), 2), (15, .iand, 1), (16, .iushr, 1), (17, .iconst (1), 1), (18, .iand, 1), (19, .iconst (1), 1), (20, .if_icmp .ne (7), 3), (23, .iconst (1), 1), (24, .goto (4), 3), (27, .iconst (0), 1), (28, .ireturn, 1)]
set_option maxRecDepth 20000 in
theorem D139 : tb139.all (dOk prog_8_method_8_code) = true := by decide +kernel
abbrev g140 : mG := (⟨"PlaceNets$Unfolding", "tellEvent", "(II)I"⟩, prog_8_method_16_code, 3, (some .int), 8, 3, 7, false)
theorem G140 : mGm[140]? = some g140 := rfl
def tb140 : List (Nat × Instr × Nat) := [(0, .iload_n 1, 1), (1, .ifCond .lt (15), 3), (4, .iload_n 1, 1), (5, .aload_n 0, 1), (6, .getfield 52, 3), (9, .if_icmp .ge (7), 3), (12, .iload_n 2, 1), (13, .ifCond .ge (5), 3), (16, .iconst (-1), 1), (17, .ireturn, 1), (18, .iload_n 2, 1), (19, .tableswitch (57) (0) (2) #[(25), (32), (42)], 25), (44, .aload_n 0, 1), (45, .getfield 15, 3), (48, .iload_n 1, 1), (49, .iaload, 1), (50, .ireturn, 1), (51, .aload_n 0, 1), (52, .getfield 18, 3), (55, .iload_n 1, 1), (56, .iaload, 1), (57, .invokestatic 120, 3), (60, .ireturn, 1), (61, .aload_n 0, 1), (62, .getfield 21, 3), (65, .iload_n 1, 1), (66, .baload, 1), (67, .ifCond .eq (7), 3), (70, .iconst (1), 1), (71, .goto (4), 3), (74, .iconst (0), 1), (75, .ireturn, 1), (76, .iload_n 2, 1), (77, .iconst (3), 1), (78, .isub, 1), (79, .aload_n 0, 1), (80, .getfield 28, 3), (83, .iload_n 1, 1), (84, .iaload, 1), (85, .if_icmp .ge (18), 3), (88, .aload_n 0, 1), (89, .getfield 25, 3), (92, .iload_n 1, 1), (93, .iconst (3), 1), (94, .imul, 1), (95, .iload_n 2, 1), (96, .iadd, 1), (97, .iconst (3), 1), (98, .isub, 1), (99, .iaload, 1), (100, .goto (5), 3), (103, .bipush (-3), 2), (105, .ireturn, 1)]
set_option maxRecDepth 20000 in
theorem D140 : tb140.all (dOk prog_8_method_16_code) = true := by decide +kernel
abbrev g142 : mG := (⟨"PlaceNets$Unfolding", "tellCondition", "(II)I"⟩, prog_8_method_17_code, 3, (some .int), 8, 3, 7, false)
theorem G142 : mGm[142]? = some g142 := rfl
def tb142 : List (Nat × Instr × Nat) := [(0, .iload_n 1, 1), (1, .ifCond .lt (11), 3), (4, .iload_n 1, 1), (5, .aload_n 0, 1), (6, .getfield 56, 3), (9, .if_icmp .lt (5), 3), (12, .iconst (-1), 1), (13, .ireturn, 1), (14, .iload_n 2, 1), (15, .ifCond .ne (10), 3), (18, .aload_n 0, 1), (19, .getfield 31, 3), (22, .iload_n 1, 1), (23, .iaload, 1), (24, .ireturn, 1), (25, .aload_n 0, 1), (26, .getfield 34, 3), (29, .iload_n 1, 1), (30, .iaload, 1), (31, .iconst (-1), 1), (32, .if_icmp .ne (8), 3), (35, .bipush (-3), 2), (37, .goto (9), 3), (40, .aload_n 0, 1), (41, .getfield 34, 3), (44, .iload_n 1, 1), (45, .iaload, 1), (46, .ireturn, 1)]
set_option maxRecDepth 20000 in
theorem D142 : tb142.all (dOk prog_8_method_17_code) = true := by decide +kernel
-- PlaceNets$Unfolding.build.(LPlaceNets$Net;[I)V, from 0
set_option maxRecDepth 20000 in
theorem bk123_0 {d b : Nat} {Q : Option Value → mMem → Prop} {m : mMem} {x0 : Nat} {x1 : Nat} {x2 : Nat} {lx2 : Nat} {x3 : Option Value} (hT : mWT m) (hOx0 : m.1 x0 = some (.inr 7) ∧ x0 ≠ 0) (hOx1 : m.1 x1 = some (.inr 2) ∧ x1 ≠ 0) (hAx2 : m.1 x2 = some (.inl (.int, lx2)) ∧ x2 ≠ 0) (hd1 : 1 ≤ d)
    (h : ∀ (m_1 : mMem), m_1 = (mSetF m x0 1 (.int 0)) → ∀ (m_3 : mMem), m_3 = (mSetF m_1 x0 2 (.int 0)) → ∀ (m_5 : mMem), m_5 = (mSetF m_3 x0 17 (.int (iF m_3 x1 0))) → (¬ (0 : Int32) < 0 ∧ ¬ (0 : Int32) < 0 ∧ ¬ (10 : Int32) < 0 ∧ (0 : Int32).toNatClampNeg + (10 : Int32).toNatClampNeg ≤ lx2 ∧ (0 : Int32).toNatClampNeg + (10 : Int32).toNatClampNeg ≤ 10) ∧ (∀ (m_7 : mMem), m_7 = (mSetI m_5 (64 * x0 + 10) (va_cpy (m_5.2.2.1 x2) (m_5.2.2.1 (64 * x0 + 10)) (0 : Int32).toNatClampNeg (0 : Int32).toNatClampNeg (10 : Int32).toNatClampNeg)) → mEv d 124 [.ref x0, .ref x1] m_7 (fun r m' => mEs d 123 b g123 (36, [some (.ref x0), some (.ref x1), some (.ref x2), x3], r.toList ++ [.ref x0], m') Q))) :
    mEs d 123 b g123 (0, [some (.ref x0), some (.ref x1), some (.ref x2), x3], [], m) Q := by
  refine e_aload_n (pc' := 1) (dAt D123 0 rfl) rfl rfl ?_
  refine e_iconst (pc' := 2) (v := 0) (dAt D123 1 rfl) rfl (by decide) ?_
  replace h := h _ rfl
  refine e_putfield (pc' := 5) (dAt D123 2 rfl) rfl rfl hOx0 rfl rfl (fun e => by cases e) ?_
  refine wtF hT hOx0 (by decide) (fun hT_2 => ?_)
  refine e_aload_n (pc' := 6) (dAt D123 3 rfl) rfl rfl ?_
  refine e_iconst (pc' := 7) (v := 0) (dAt D123 4 rfl) rfl (by decide) ?_
  replace h := h _ rfl
  refine e_putfield (pc' := 10) (dAt D123 5 rfl) rfl rfl hOx0 rfl rfl (fun e => by cases e) ?_
  refine wtF hT_2 hOx0 (by decide) (fun hT_4 => ?_)
  refine e_aload_n (pc' := 11) (dAt D123 6 rfl) rfl rfl ?_
  refine e_aload_n (pc' := 12) (dAt D123 7 rfl) rfl rfl ?_
  refine e_getfield (pc' := 15) (dAt D123 8 rfl) rfl rfl hOx1 (hT_4.int hOx1 0 (by decide)) ?_
  replace h := h _ rfl
  refine e_putfield (pc' := 18) (dAt D123 9 rfl) rfl rfl hOx0 rfl rfl (fun e => by cases e) ?_
  refine wtF hT_4 hOx0 (by decide) (fun hT_6 => ?_)
  refine e_aload_n (pc' := 19) (dAt D123 10 rfl) rfl rfl ?_
  refine e_iconst (pc' := 20) (v := 0) (dAt D123 11 rfl) rfl (by decide) ?_
  refine e_aload_n (pc' := 21) (dAt D123 12 rfl) rfl rfl ?_
  refine e_getfield (pc' := 24) (dAt D123 13 rfl) rfl rfl hOx0 (hT_6.own hOx0 9 rfl) ?_
  refine e_iconst (pc' := 25) (v := 0) (dAt D123 14 rfl) rfl (by decide) ?_
  refine e_bipush (pc' := 27) (v := 10) (dAt D123 15 rfl) rfl (by decide) ?_
  obtain ⟨f1, h⟩ := h
  replace h := h _ rfl
  refine e_copy (pc' := 30) (dAt D123 16 rfl) rfl rfl hAx2 (hT_6.arr hOx0 9 rfl (by decide)) f1 ⟨hd1, Nat.le_of_ble_eq_true rfl⟩ ?_
  refine wtI hT_6 (fun hT_8 => ?_)
  refine e_aload_n (pc' := 31) (dAt D123 17 rfl) rfl rfl ?_
  refine e_aload_n (pc' := 32) (dAt D123 18 rfl) rfl rfl ?_
  refine e_aload_n (pc' := 33) (dAt D123 19 rfl) rfl rfl ?_
  exact e_call2 h (dAt D123 20 rfl) (hi0 rfl) rfl G124 (by decide) rfl (Nat.le_of_ble_eq_true rfl) (kV hOx0 rfl rfl) rfl rfl
-- PlaceNets$Unfolding.build.(LPlaceNets$Net;[I)V, from 36
set_option maxRecDepth 20000 in
theorem bk123_36 {d b : Nat} {Q : Option Value → mMem → Prop} {m : mMem} {x0 : Nat} {x1 : Nat} {x2 : Nat} {lx2 : Nat} {x3 : Option Value} {y0 : Nat} {y1 : Int32} (hT : mWT m) (hOx0 : m.1 x0 = some (.inr 7) ∧ x0 ≠ 0) (hOx1 : m.1 x1 = some (.inr 2) ∧ x1 ≠ 0) (hAx2 : m.1 x2 = some (.inl (.int, lx2)) ∧ x2 ≠ 0) (hOy0 : m.1 y0 = some (.inr 7) ∧ y0 ≠ 0)
    (h : (y1 = 0 ∨ y1 = 1) ∧ (∀ (m_1 : mMem), m_1 = (mSetF m y0 3 (.int y1)) → mEv d 11 [.ref (64 * x0 + 13), .int 0] m_1 (fun r m' => mEs d 123 b g123 (47, [some (.ref x0), some (.ref x1), some (.ref x2), x3], r.toList ++ [], m') Q))) :
    mEs d 123 b g123 (36, [some (.ref x0), some (.ref x1), some (.ref x2), x3], [.int y1, .ref y0], m) Q := by
  obtain ⟨f1, h⟩ := h
  replace h := h _ rfl
  refine e_putfield (pc' := 39) (dAt D123 21 rfl) rfl rfl hOy0 (nb01 f1) (fb01 f1) (fun e => by cases e) ?_
  refine wtF hT hOy0 (by decide) (fun hT_2 => ?_)
  refine e_aload_n (pc' := 40) (dAt D123 22 rfl) rfl rfl ?_
  refine e_getfield (pc' := 43) (dAt D123 23 rfl) rfl rfl hOx0 (hT_2.own hOx0 12 rfl) ?_
  refine e_iconst (pc' := 44) (v := 0) (dAt D123 24 rfl) rfl (by decide) ?_
  exact e_call2 h (dAt D123 25 rfl) (hi2 rfl) rfl G11 (by decide) rfl (Nat.le_of_ble_eq_true rfl) rfl rfl rfl
-- PlaceNets$Unfolding.build.(LPlaceNets$Net;[I)V, from 47
set_option maxRecDepth 20000 in
theorem bk123_47 {d b : Nat} {Q : Option Value → mMem → Prop} {m : mMem} {x0 : Nat} {x1 : Nat} {x2 : Nat} {lx2 : Nat} {x3 : Option Value} (hT : mWT m) (hOx0 : m.1 x0 = some (.inr 7) ∧ x0 ≠ 0) (hOx1 : m.1 x1 = some (.inr 2) ∧ x1 ≠ 0) (hAx2 : m.1 x2 = some (.inl (.int, lx2)) ∧ x2 ≠ 0)
    (h : mEs d 123 b g123 (49, [some (.ref x0), some (.ref x1), some (.ref x2), some (.int 0)], [], m) Q) :
    mEs d 123 b g123 (47, [some (.ref x0), some (.ref x1), some (.ref x2), x3], [], m) Q := by
  refine e_iconst (pc' := 48) (v := 0) (dAt D123 26 rfl) rfl (by decide) ?_
  refine e_istore_n (pc' := 49) (dAt D123 27 rfl) rfl (Nat.le_of_ble_eq_true rfl) rfl ?_
  exact h
-- PlaceNets$Unfolding.build.(LPlaceNets$Net;[I)V, from 49
set_option maxRecDepth 20000 in
theorem bk123_49 {d b : Nat} {Q : Option Value → mMem → Prop} {m : mMem} {x0 : Nat} {x1 : Nat} {x2 : Nat} {lx2 : Nat} {x3 : Int32} (hT : mWT m) (hOx0 : m.1 x0 = some (.inr 7) ∧ x0 ≠ 0) (hOx1 : m.1 x1 = some (.inr 2) ∧ x1 ≠ 0) (hAx2 : m.1 x2 = some (.inl (.int, lx2)) ∧ x2 ≠ 0)
    (h : ((((iF m x0 17) ≤ x3) → (mEs d 123 b g123 (81, [some (.ref x0), some (.ref x1), some (.ref x2), some (.int 1)], [], m) Q)) ∧ (¬ ((iF m x0 17) ≤ x3) → (((¬ (iF m x0 3) = 0) → (mEs d 123 b g123 (81, [some (.ref x0), some (.ref x1), some (.ref x2), some (.int 1)], [], m) Q)) ∧ (¬ (¬ (iF m x0 3) = 0) → ((mIn x3 lx2 = true) ∧ (mEv d 126 [.ref x0, .int x3, .int (m.2.2.1 x2 x3.toNatClampNeg), .int ((-1))] m (fun r m' => mEs d 123 b g123 (73, [some (.ref x0), some (.ref x1), some (.ref x2), some (.int x3)], r.toList ++ [], m') Q)))))))) :
    mEs d 123 b g123 (49, [some (.ref x0), some (.ref x1), some (.ref x2), some (.int x3)], [], m) Q := by
  refine e_iload_n (pc' := 50) (dAt D123 28 rfl) rfl rfl ?_
  refine e_aload_n (pc' := 51) (dAt D123 29 rfl) rfl rfl ?_
  refine e_getfield (pc' := 54) (dAt D123 30 rfl) rfl rfl hOx0 (hT.int hOx0 17 (by decide)) ?_
  refine e_icmp_ge (t := 79) (pc' := 57) (dAt D123 31 rfl) ⟨by decide, by decide⟩ rfl (fun c => ?_) (fun c => ?_)
  · replace h := h.1 c
    refine e_iconst (pc' := 80) (v := 1) (dAt D123 44 rfl) rfl (by decide) ?_
    refine e_istore_n (pc' := 81) (dAt D123 45 rfl) rfl (Nat.le_of_ble_eq_true rfl) rfl ?_
    exact h
  · replace h := h.2 c
    refine e_aload_n (pc' := 58) (dAt D123 32 rfl) rfl rfl ?_
    refine e_getfield (pc' := 61) (dAt D123 33 rfl) rfl rfl hOx0 (hT.int hOx0 3 (by decide)) ?_
    refine e_if_ne (t := 79) (pc' := 64) (dAt D123 34 rfl) ⟨by decide, by decide⟩ rfl (fun c => ?_) (fun c => ?_)
    · replace h := h.1 c
      refine e_iconst (pc' := 80) (v := 1) (dAt D123 44 rfl) rfl (by decide) ?_
      refine e_istore_n (pc' := 81) (dAt D123 45 rfl) rfl (Nat.le_of_ble_eq_true rfl) rfl ?_
      exact h
    · replace h := h.2 c
      refine e_aload_n (pc' := 65) (dAt D123 35 rfl) rfl rfl ?_
      refine e_iload_n (pc' := 66) (dAt D123 36 rfl) rfl rfl ?_
      refine e_aload_n (pc' := 67) (dAt D123 37 rfl) rfl rfl ?_
      refine e_iload_n (pc' := 68) (dAt D123 38 rfl) rfl rfl ?_
      obtain ⟨f1, h⟩ := h
      refine e_iaload (pc' := 69) (dAt D123 39 rfl) rfl hAx2.1 (Or.inl hAx2.2) f1 rfl ?_
      refine e_iconst (pc' := 70) (v := (-1)) (dAt D123 40 rfl) rfl (by decide) ?_
      exact e_call2 h (dAt D123 41 rfl) (hi0 rfl) rfl G126 (by decide) rfl (Nat.le_of_ble_eq_true rfl) (kV hOx0 rfl rfl) rfl rfl
-- PlaceNets$Unfolding.build.(LPlaceNets$Net;[I)V, from 73
set_option maxRecDepth 20000 in
theorem bk123_73 {d b : Nat} {Q : Option Value → mMem → Prop} {m : mMem} {x0 : Nat} {x1 : Nat} {x2 : Nat} {lx2 : Nat} {x3 : Int32} (hT : mWT m) (hOx0 : m.1 x0 = some (.inr 7) ∧ x0 ≠ 0) (hOx1 : m.1 x1 = some (.inr 2) ∧ x1 ≠ 0) (hAx2 : m.1 x2 = some (.inl (.int, lx2)) ∧ x2 ≠ 0)
    (h : ∀ (v_1 : Int32), v_1 = (x3 + 1) → mEs d 123 b g123 (49, [some (.ref x0), some (.ref x1), some (.ref x2), some (.int v_1)], [], m) Q) :
    mEs d 123 b g123 (73, [some (.ref x0), some (.ref x1), some (.ref x2), some (.int x3)], [], m) Q := by
  replace h := h _ rfl
  refine e_iinc (pc' := 76) (dAt D123 42 rfl) rfl rfl (Nat.le_of_ble_eq_true rfl) (congrArg (_ + ·) (show Int32.ofInt (1) = (1 : Int32) by decide)) rfl ?_
  refine e_goto (t := 49) (dAt D123 43 rfl) ⟨by decide, by decide⟩ ?_
  exact h
-- PlaceNets$Unfolding.build.(LPlaceNets$Net;[I)V, from 81
set_option maxRecDepth 20000 in
theorem bk123_81 {d b : Nat} {Q : Option Value → mMem → Prop} {m : mMem} {x0 : Nat} {x1 : Nat} {x2 : Nat} {lx2 : Nat} {x3 : Int32} (hT : mWT m) (hOx0 : m.1 x0 = some (.inr 7) ∧ x0 ≠ 0) (hOx1 : m.1 x1 = some (.inr 2) ∧ x1 ≠ 0) (hAx2 : m.1 x2 = some (.inl (.int, lx2)) ∧ x2 ≠ 0)
    (h : (((31 < x3) → (Q none m)) ∧ (¬ (31 < x3) → (((((iF m x0 1) + 1) < x3) → (Q none m)) ∧ (¬ (((iF m x0 1) + 1) < x3) → (((¬ (iF m x0 3) = 0) → (Q none m)) ∧ (¬ (¬ (iF m x0 3) = 0) → (mEv d 130 [.ref x0, .ref x1, .int x3] m (fun r m' => mEs d 123 b g123 (110, [some (.ref x0), some (.ref x1), some (.ref x2), some (.int x3)], r.toList ++ [], m') Q))))))))) :
    mEs d 123 b g123 (81, [some (.ref x0), some (.ref x1), some (.ref x2), some (.int x3)], [], m) Q := by
  refine e_iload_n (pc' := 82) (dAt D123 46 rfl) rfl rfl ?_
  refine e_bipush (pc' := 84) (v := 31) (dAt D123 47 rfl) rfl (by decide) ?_
  refine e_icmp_gt (t := 116) (pc' := 87) (dAt D123 48 rfl) ⟨by decide, by decide⟩ rfl (fun c => ?_) (fun c => ?_)
  · replace h := h.1 c
    exact e_return (dAt D123 64 rfl) rfl h
  · replace h := h.2 c
    refine e_iload_n (pc' := 88) (dAt D123 49 rfl) rfl rfl ?_
    refine e_aload_n (pc' := 89) (dAt D123 50 rfl) rfl rfl ?_
    refine e_getfield (pc' := 92) (dAt D123 51 rfl) rfl rfl hOx0 (hT.int hOx0 1 (by decide)) ?_
    refine e_iconst (pc' := 93) (v := 1) (dAt D123 52 rfl) rfl (by decide) ?_
    refine e_iadd (pc' := 94) (dAt D123 53 rfl) rfl ?_
    refine e_icmp_gt (t := 116) (pc' := 97) (dAt D123 54 rfl) ⟨by decide, by decide⟩ rfl (fun c => ?_) (fun c => ?_)
    · replace h := h.1 c
      exact e_return (dAt D123 64 rfl) rfl h
    · replace h := h.2 c
      refine e_aload_n (pc' := 98) (dAt D123 55 rfl) rfl rfl ?_
      refine e_getfield (pc' := 101) (dAt D123 56 rfl) rfl rfl hOx0 (hT.int hOx0 3 (by decide)) ?_
      refine e_if_ne (t := 116) (pc' := 104) (dAt D123 57 rfl) ⟨by decide, by decide⟩ rfl (fun c => ?_) (fun c => ?_)
      · replace h := h.1 c
        exact e_return (dAt D123 64 rfl) rfl h
      · replace h := h.2 c
        refine e_aload_n (pc' := 105) (dAt D123 58 rfl) rfl rfl ?_
        refine e_aload_n (pc' := 106) (dAt D123 59 rfl) rfl rfl ?_
        refine e_iload_n (pc' := 107) (dAt D123 60 rfl) rfl rfl ?_
        exact e_call2 h (dAt D123 61 rfl) (hi0 rfl) rfl G130 (by decide) rfl (Nat.le_of_ble_eq_true rfl) (kV hOx0 rfl rfl) rfl rfl
-- PlaceNets$Unfolding.build.(LPlaceNets$Net;[I)V, from 110
set_option maxRecDepth 20000 in
theorem bk123_110 {d b : Nat} {Q : Option Value → mMem → Prop} {m : mMem} {x0 : Nat} {x1 : Nat} {x2 : Nat} {lx2 : Nat} {x3 : Int32} (hT : mWT m) (hOx0 : m.1 x0 = some (.inr 7) ∧ x0 ≠ 0) (hOx1 : m.1 x1 = some (.inr 2) ∧ x1 ≠ 0) (hAx2 : m.1 x2 = some (.inl (.int, lx2)) ∧ x2 ≠ 0)
    (h : ∀ (v_1 : Int32), v_1 = (x3 + 1) → mEs d 123 b g123 (81, [some (.ref x0), some (.ref x1), some (.ref x2), some (.int v_1)], [], m) Q) :
    mEs d 123 b g123 (110, [some (.ref x0), some (.ref x1), some (.ref x2), some (.int x3)], [], m) Q := by
  replace h := h _ rfl
  refine e_iinc (pc' := 113) (dAt D123 62 rfl) rfl rfl (Nat.le_of_ble_eq_true rfl) (congrArg (_ + ·) (show Int32.ofInt (1) = (1 : Int32) by decide)) rfl ?_
  refine e_goto (t := 81) (dAt D123 63 rfl) ⟨by decide, by decide⟩ ?_
  exact h
-- PlaceNets$Unfolding.isTooGreat.(LPlaceNets$Net;)Z, from 0
set_option maxRecDepth 20000 in
theorem bk124_0 {d b : Nat} {Q : Option Value → mMem → Prop} {m : mMem} {x0 : Nat} {x1 : Nat} {x2 : Option Value} {x3 : Option Value} {x4 : Option Value} (hT : mWT m) (hOx0 : m.1 x0 = some (.inr 7) ∧ x0 ≠ 0) (hOx1 : m.1 x1 = some (.inr 2) ∧ x1 ≠ 0)
    (h : mEs d 124 b g124 (4, [some (.ref x0), some (.ref x1), some (.int 0), some (.int 0), x4], [], m) Q) :
    mEs d 124 b g124 (0, [some (.ref x0), some (.ref x1), x2, x3, x4], [], m) Q := by
  refine e_iconst (pc' := 1) (v := 0) (dAt D124 0 rfl) rfl (by decide) ?_
  refine e_istore_n (pc' := 2) (dAt D124 1 rfl) rfl (Nat.le_of_ble_eq_true rfl) rfl ?_
  refine e_iconst (pc' := 3) (v := 0) (dAt D124 2 rfl) rfl (by decide) ?_
  refine e_istore_n (pc' := 4) (dAt D124 3 rfl) rfl (Nat.le_of_ble_eq_true rfl) rfl ?_
  exact h
-- PlaceNets$Unfolding.isTooGreat.(LPlaceNets$Net;)Z, from 4
set_option maxRecDepth 20000 in
theorem bk124_4 {d b : Nat} {Q : Option Value → mMem → Prop} {m : mMem} {x0 : Nat} {x1 : Nat} {x2 : Int32} {x3 : Int32} {x4 : Option Value} (hT : mWT m) (hOx0 : m.1 x0 = some (.inr 7) ∧ x0 ≠ 0) (hOx1 : m.1 x1 = some (.inr 2) ∧ x1 ≠ 0)
    (h : ((((iF m x0 17) ≤ x3) → (((x2 ≤ 12) → (mEs d 124 b g124 (42, [some (.ref x0), some (.ref x1), some (.int x2), some (.int 0), some (.int 0)], [], m) Q)) ∧ (¬ (x2 ≤ 12) → (mEs d 124 b g124 (42, [some (.ref x0), some (.ref x1), some (.int x2), some (.int 1), some (.int 0)], [], m) Q)))) ∧ (¬ ((iF m x0 17) ≤ x3) → ((mIn x3 10 = true) ∧ (∀ (v_1 : Int32), v_1 = (x2 + (m.2.2.1 (64 * x0 + 10) x3.toNatClampNeg)) → ∀ (v_2 : Int32), v_2 = (x3 + 1) → mEs d 124 b g124 (4, [some (.ref x0), some (.ref x1), some (.int v_1), some (.int v_2), x4], [], m) Q))))) :
    mEs d 124 b g124 (4, [some (.ref x0), some (.ref x1), some (.int x2), some (.int x3), x4], [], m) Q := by
  refine e_iload_n (pc' := 5) (dAt D124 4 rfl) rfl rfl ?_
  refine e_aload_n (pc' := 6) (dAt D124 5 rfl) rfl rfl ?_
  refine e_getfield (pc' := 9) (dAt D124 6 rfl) rfl rfl hOx0 (hT.int hOx0 17 (by decide)) ?_
  refine e_icmp_ge (t := 27) (pc' := 12) (dAt D124 7 rfl) ⟨by decide, by decide⟩ rfl (fun c => ?_) (fun c => ?_)
  · replace h := h.1 c
    refine e_iload_n (pc' := 28) (dAt D124 17 rfl) rfl rfl ?_
    refine e_bipush (pc' := 30) (v := 12) (dAt D124 18 rfl) rfl (by decide) ?_
    refine e_icmp_le (t := 37) (pc' := 33) (dAt D124 19 rfl) ⟨by decide, by decide⟩ rfl (fun c => ?_) (fun c => ?_)
    · replace h := h.1 c
      refine e_iconst (pc' := 38) (v := 0) (dAt D124 22 rfl) rfl (by decide) ?_
      refine e_istore_n (pc' := 39) (dAt D124 23 rfl) rfl (Nat.le_of_ble_eq_true rfl) rfl ?_
      refine e_iconst (pc' := 40) (v := 0) (dAt D124 24 rfl) rfl (by decide) ?_
      refine e_istore (pc' := 42) (dAt D124 25 rfl) rfl (Nat.le_of_ble_eq_true rfl) rfl ?_
      exact h
    · replace h := h.2 c
      refine e_iconst (pc' := 34) (v := 1) (dAt D124 20 rfl) rfl (by decide) ?_
      refine e_goto (t := 38) (dAt D124 21 rfl) ⟨by decide, by decide⟩ ?_
      refine e_istore_n (pc' := 39) (dAt D124 23 rfl) rfl (Nat.le_of_ble_eq_true rfl) rfl ?_
      refine e_iconst (pc' := 40) (v := 0) (dAt D124 24 rfl) rfl (by decide) ?_
      refine e_istore (pc' := 42) (dAt D124 25 rfl) rfl (Nat.le_of_ble_eq_true rfl) rfl ?_
      exact h
  · replace h := h.2 c
    refine e_iload_n (pc' := 13) (dAt D124 8 rfl) rfl rfl ?_
    refine e_aload_n (pc' := 14) (dAt D124 9 rfl) rfl rfl ?_
    refine e_getfield (pc' := 17) (dAt D124 10 rfl) rfl rfl hOx0 (hT.own hOx0 9 rfl) ?_
    refine e_iload_n (pc' := 18) (dAt D124 11 rfl) rfl rfl ?_
    obtain ⟨f1, h⟩ := h
    refine e_iaload (pc' := 19) (dAt D124 12 rfl) rfl (hT.arr hOx0 9 rfl (by decide)).1 (Or.inl (hT.arr hOx0 9 rfl (by decide)).2) f1 rfl ?_
    refine e_iadd (pc' := 20) (dAt D124 13 rfl) rfl ?_
    replace h := h _ rfl
    refine e_istore_n (pc' := 21) (dAt D124 14 rfl) rfl (Nat.le_of_ble_eq_true rfl) rfl ?_
    replace h := h _ rfl
    refine e_iinc (pc' := 24) (dAt D124 15 rfl) rfl rfl (Nat.le_of_ble_eq_true rfl) (congrArg (_ + ·) (show Int32.ofInt (1) = (1 : Int32) by decide)) rfl ?_
    refine e_goto (t := 4) (dAt D124 16 rfl) ⟨by decide, by decide⟩ ?_
    exact h
-- PlaceNets$Unfolding.isTooGreat.(LPlaceNets$Net;)Z, from 42
set_option maxRecDepth 20000 in
theorem bk124_42 {d b : Nat} {Q : Option Value → mMem → Prop} {m : mMem} {x0 : Nat} {x1 : Nat} {x2 : Int32} {x3 : Int32} {x4 : Int32} (hT : mWT m) (hOx0 : m.1 x0 = some (.inr 7) ∧ x0 ≠ 0) (hOx1 : m.1 x1 = some (.inr 2) ∧ x1 ≠ 0)
    (h : ((((iF m x1 1) ≤ x4) → ((x3 = 0 ∨ x3 = 1) ∧ (Q (some (.int x3)) m))) ∧ (¬ ((iF m x1 1) ≤ x4) → (((¬ x3 = 0) → (∀ (v_1 : Int32), v_1 = (x4 + 1) → mEs d 124 b g124 (42, [some (.ref x0), some (.ref x1), some (.int x2), some (.int 1), some (.int v_1)], [], m) Q)) ∧ (¬ (¬ x3 = 0) → (mEv d 125 [.ref x1, .int x4] m (fun r m' => mEs d 124 b g124 (61, [some (.ref x0), some (.ref x1), some (.int x2), some (.int x3), some (.int x4)], r.toList ++ [], m') Q))))))) :
    mEs d 124 b g124 (42, [some (.ref x0), some (.ref x1), some (.int x2), some (.int x3), some (.int x4)], [], m) Q := by
  refine e_iload (pc' := 44) (dAt D124 26 rfl) rfl rfl ?_
  refine e_aload_n (pc' := 45) (dAt D124 27 rfl) rfl rfl ?_
  refine e_getfield (pc' := 48) (dAt D124 28 rfl) rfl rfl hOx1 (hT.int hOx1 1 (by decide)) ?_
  refine e_icmp_ge (t := 77) (pc' := 51) (dAt D124 29 rfl) ⟨by decide, by decide⟩ rfl (fun c => ?_) (fun c => ?_)
  · replace h := h.1 c
    refine e_iload_n (pc' := 78) (dAt D124 43 rfl) rfl rfl ?_
    obtain ⟨f1, h⟩ := h
    exact e_ireturn (dAt D124 44 rfl) rfl ⟨nb01 f1, fun e => by cases e⟩ h
  · replace h := h.2 c
    refine e_iload_n (pc' := 52) (dAt D124 30 rfl) rfl rfl ?_
    refine e_if_ne (t := 65) (pc' := 55) (dAt D124 31 rfl) ⟨by decide, by decide⟩ rfl (fun c => ?_) (fun c => ?_)
    · replace h := h.1 c
      refine e_iconst (pc' := 66) (v := 1) (dAt D124 37 rfl) rfl (by decide) ?_
      refine e_goto (t := 70) (dAt D124 38 rfl) ⟨by decide, by decide⟩ ?_
      refine e_istore_n (pc' := 71) (dAt D124 40 rfl) rfl (Nat.le_of_ble_eq_true rfl) rfl ?_
      replace h := h _ rfl
      refine e_iinc (pc' := 74) (dAt D124 41 rfl) rfl rfl (Nat.le_of_ble_eq_true rfl) (congrArg (_ + ·) (show Int32.ofInt (1) = (1 : Int32) by decide)) rfl ?_
      refine e_goto (t := 42) (dAt D124 42 rfl) ⟨by decide, by decide⟩ ?_
      exact h
    · replace h := h.2 c
      refine e_aload_n (pc' := 56) (dAt D124 32 rfl) rfl rfl ?_
      refine e_iload (pc' := 58) (dAt D124 33 rfl) rfl rfl ?_
      exact e_call2 h (dAt D124 34 rfl) (hi0 rfl) rfl G125 (by decide) rfl (Nat.le_of_ble_eq_true rfl) (kV hOx1 rfl rfl) rfl rfl
-- PlaceNets$Unfolding.isTooGreat.(LPlaceNets$Net;)Z, from 61
set_option maxRecDepth 20000 in
theorem bk124_61 {d b : Nat} {Q : Option Value → mMem → Prop} {m : mMem} {x0 : Nat} {x1 : Nat} {x2 : Int32} {x3 : Int32} {x4 : Int32} {y0 : Int32} (hT : mWT m) (hOx0 : m.1 x0 = some (.inr 7) ∧ x0 ≠ 0) (hOx1 : m.1 x1 = some (.inr 2) ∧ x1 ≠ 0)
    (h : (((y0 ≤ 3) → (∀ (v_1 : Int32), v_1 = (x4 + 1) → mEs d 124 b g124 (42, [some (.ref x0), some (.ref x1), some (.int x2), some (.int 0), some (.int v_1)], [], m) Q)) ∧ (¬ (y0 ≤ 3) → (∀ (v_2 : Int32), v_2 = (x4 + 1) → mEs d 124 b g124 (42, [some (.ref x0), some (.ref x1), some (.int x2), some (.int 1), some (.int v_2)], [], m) Q)))) :
    mEs d 124 b g124 (61, [some (.ref x0), some (.ref x1), some (.int x2), some (.int x3), some (.int x4)], [.int y0], m) Q := by
  refine e_iconst (pc' := 62) (v := 3) (dAt D124 35 rfl) rfl (by decide) ?_
  refine e_icmp_le (t := 69) (pc' := 65) (dAt D124 36 rfl) ⟨by decide, by decide⟩ rfl (fun c => ?_) (fun c => ?_)
  · replace h := h.1 c
    refine e_iconst (pc' := 70) (v := 0) (dAt D124 39 rfl) rfl (by decide) ?_
    refine e_istore_n (pc' := 71) (dAt D124 40 rfl) rfl (Nat.le_of_ble_eq_true rfl) rfl ?_
    replace h := h _ rfl
    refine e_iinc (pc' := 74) (dAt D124 41 rfl) rfl rfl (Nat.le_of_ble_eq_true rfl) (congrArg (_ + ·) (show Int32.ofInt (1) = (1 : Int32) by decide)) rfl ?_
    refine e_goto (t := 42) (dAt D124 42 rfl) ⟨by decide, by decide⟩ ?_
    exact h
  · replace h := h.2 c
    refine e_iconst (pc' := 66) (v := 1) (dAt D124 37 rfl) rfl (by decide) ?_
    refine e_goto (t := 70) (dAt D124 38 rfl) ⟨by decide, by decide⟩ ?_
    refine e_istore_n (pc' := 71) (dAt D124 40 rfl) rfl (Nat.le_of_ble_eq_true rfl) rfl ?_
    replace h := h _ rfl
    refine e_iinc (pc' := 74) (dAt D124 41 rfl) rfl rfl (Nat.le_of_ble_eq_true rfl) (congrArg (_ + ·) (show Int32.ofInt (1) = (1 : Int32) by decide)) rfl ?_
    refine e_goto (t := 42) (dAt D124 42 rfl) ⟨by decide, by decide⟩ ?_
    exact h
-- PlaceNets$Unfolding.addConditions.(III)V, from 0
set_option maxRecDepth 20000 in
theorem bk126_0 {d b : Nat} {Q : Option Value → mMem → Prop} {m : mMem} {x0 : Nat} {x1 : Int32} {x2 : Int32} {x3 : Int32} {x4 : Option Value} (hT : mWT m) (hOx0 : m.1 x0 = some (.inr 7) ∧ x0 ≠ 0)
    (h : mEs d 126 b g126 (3, [some (.ref x0), some (.int x1), some (.int x2), some (.int x3), some (.int 0)], [], m) Q) :
    mEs d 126 b g126 (0, [some (.ref x0), some (.int x1), some (.int x2), some (.int x3), x4], [], m) Q := by
  refine e_iconst (pc' := 1) (v := 0) (dAt D126 0 rfl) rfl (by decide) ?_
  refine e_istore (pc' := 3) (dAt D126 1 rfl) rfl (Nat.le_of_ble_eq_true rfl) rfl ?_
  exact h
-- PlaceNets$Unfolding.addConditions.(III)V, from 3
set_option maxRecDepth 20000 in
theorem bk126_3 {d b : Nat} {Q : Option Value → mMem → Prop} {m : mMem} {x0 : Nat} {x1 : Int32} {x2 : Int32} {x3 : Int32} {x4 : Int32} (hT : mWT m) (hOx0 : m.1 x0 = some (.inr 7) ∧ x0 ≠ 0)
    (h : (((x2 ≤ x4) → (Q none m)) ∧ (¬ (x2 ≤ x4) → (((¬ (iF m x0 3) = 0) → (Q none m)) ∧ (¬ (¬ (iF m x0 3) = 0) → ((((iF m x0 2) < 80) → ((mIn (iF m x0 2) 80 = true) ∧ (∀ (m_1 : mMem), m_1 = (mSetI m (64 * x0 + 7) (upd (m.2.2.1 (64 * x0 + 7)) (iF m x0 2).toNatClampNeg x1)) → (mIn (iF m_1 x0 2) 80 = true) ∧ (∀ (m_3 : mMem), m_3 = (mSetI m_1 (64 * x0 + 8) (upd (m_1.2.2.1 (64 * x0 + 8)) (iF m_1 x0 2).toNatClampNeg x3)) → mEv d 127 [.ref x0, .int (iF m_3 x0 2), .int x3] m_3 (fun r m' => mEs d 126 b g126 (62, [some (.ref x0), some (.int x1), some (.int x2), some (.int x3), some (.int x4)], r.toList ++ [], m') Q))))) ∧ (¬ ((iF m x0 2) < 80) → (∀ (m_5 : mMem), m_5 = (mSetF m x0 3 (.int 1)) → ∀ (v_7 : Int32), v_7 = (x4 + 1) → mEs d 126 b g126 (3, [some (.ref x0), some (.int x1), some (.int x2), some (.int x3), some (.int v_7)], [], m_5) Q)))))))) :
    mEs d 126 b g126 (3, [some (.ref x0), some (.int x1), some (.int x2), some (.int x3), some (.int x4)], [], m) Q := by
  refine e_iload (pc' := 5) (dAt D126 2 rfl) rfl rfl ?_
  refine e_iload_n (pc' := 6) (dAt D126 3 rfl) rfl rfl ?_
  refine e_icmp_ge (t := 78) (pc' := 9) (dAt D126 4 rfl) ⟨by decide, by decide⟩ rfl (fun c => ?_) (fun c => ?_)
  · replace h := h.1 c
    exact e_return (dAt D126 41 rfl) rfl h
  · replace h := h.2 c
    refine e_aload_n (pc' := 10) (dAt D126 5 rfl) rfl rfl ?_
    refine e_getfield (pc' := 13) (dAt D126 6 rfl) rfl rfl hOx0 (hT.int hOx0 3 (by decide)) ?_
    refine e_if_ne (t := 78) (pc' := 16) (dAt D126 7 rfl) ⟨by decide, by decide⟩ rfl (fun c => ?_) (fun c => ?_)
    · replace h := h.1 c
      exact e_return (dAt D126 41 rfl) rfl h
    · replace h := h.2 c
      refine e_aload_n (pc' := 17) (dAt D126 8 rfl) rfl rfl ?_
      refine e_getfield (pc' := 20) (dAt D126 9 rfl) rfl rfl hOx0 (hT.int hOx0 2 (by decide)) ?_
      refine e_bipush (pc' := 22) (v := 80) (dAt D126 10 rfl) rfl (by decide) ?_
      refine e_icmp_lt (t := 33) (pc' := 25) (dAt D126 11 rfl) ⟨by decide, by decide⟩ rfl (fun c => ?_) (fun c => ?_)
      · replace h := h.1 c
        refine e_aload_n (pc' := 34) (dAt D126 16 rfl) rfl rfl ?_
        refine e_getfield (pc' := 37) (dAt D126 17 rfl) rfl rfl hOx0 (hT.own hOx0 6 rfl) ?_
        refine e_aload_n (pc' := 38) (dAt D126 18 rfl) rfl rfl ?_
        refine e_getfield (pc' := 41) (dAt D126 19 rfl) rfl rfl hOx0 (hT.int hOx0 2 (by decide)) ?_
        refine e_iload_n (pc' := 42) (dAt D126 20 rfl) rfl rfl ?_
        obtain ⟨f1, h⟩ := h
        replace h := h _ rfl
        refine e_iastore (pc' := 43) (dAt D126 21 rfl) rfl (hT.arr hOx0 6 rfl (by decide)).1 (hT.arr hOx0 6 rfl (by decide)).2 f1 (nar_i _) ?_
        refine wtI hT (fun hT_2 => ?_)
        refine e_aload_n (pc' := 44) (dAt D126 22 rfl) rfl rfl ?_
        refine e_getfield (pc' := 47) (dAt D126 23 rfl) rfl rfl hOx0 (hT_2.own hOx0 7 rfl) ?_
        refine e_aload_n (pc' := 48) (dAt D126 24 rfl) rfl rfl ?_
        refine e_getfield (pc' := 51) (dAt D126 25 rfl) rfl rfl hOx0 (hT_2.int hOx0 2 (by decide)) ?_
        refine e_iload_n (pc' := 52) (dAt D126 26 rfl) rfl rfl ?_
        obtain ⟨f1, h⟩ := h
        replace h := h _ rfl
        refine e_iastore (pc' := 53) (dAt D126 27 rfl) rfl (hT_2.arr hOx0 7 rfl (by decide)).1 (hT_2.arr hOx0 7 rfl (by decide)).2 f1 (nar_i _) ?_
        refine wtI hT_2 (fun hT_4 => ?_)
        refine e_aload_n (pc' := 54) (dAt D126 28 rfl) rfl rfl ?_
        refine e_aload_n (pc' := 55) (dAt D126 29 rfl) rfl rfl ?_
        refine e_getfield (pc' := 58) (dAt D126 30 rfl) rfl rfl hOx0 (hT_4.int hOx0 2 (by decide)) ?_
        refine e_iload_n (pc' := 59) (dAt D126 31 rfl) rfl rfl ?_
        exact e_call2 h (dAt D126 32 rfl) (hi0 rfl) rfl G127 (by decide) rfl (Nat.le_of_ble_eq_true rfl) (kV hOx0 rfl rfl) rfl rfl
      · replace h := h.2 c
        refine e_aload_n (pc' := 26) (dAt D126 12 rfl) rfl rfl ?_
        refine e_iconst (pc' := 27) (v := 1) (dAt D126 13 rfl) rfl (by decide) ?_
        replace h := h _ rfl
        refine e_putfield (pc' := 30) (dAt D126 14 rfl) rfl rfl hOx0 rfl rfl (fun e => by cases e) ?_
        refine wtF hT hOx0 (by decide) (fun hT_6 => ?_)
        refine e_goto (t := 72) (dAt D126 15 rfl) ⟨by decide, by decide⟩ ?_
        replace h := h _ rfl
        refine e_iinc (pc' := 75) (dAt D126 39 rfl) rfl rfl (Nat.le_of_ble_eq_true rfl) (congrArg (_ + ·) (show Int32.ofInt (1) = (1 : Int32) by decide)) rfl ?_
        refine e_goto (t := 3) (dAt D126 40 rfl) ⟨by decide, by decide⟩ ?_
        exact h
-- PlaceNets$Unfolding.addConditions.(III)V, from 62
set_option maxRecDepth 20000 in
theorem bk126_62 {d b : Nat} {Q : Option Value → mMem → Prop} {m : mMem} {x0 : Nat} {x1 : Int32} {x2 : Int32} {x3 : Int32} {x4 : Int32} (hT : mWT m) (hOx0 : m.1 x0 = some (.inr 7) ∧ x0 ≠ 0)
    (h : ∀ (m_1 : mMem), m_1 = (mSetF m x0 2 (.int ((iF m x0 2) + 1))) → ∀ (v_3 : Int32), v_3 = (x4 + 1) → mEs d 126 b g126 (3, [some (.ref x0), some (.int x1), some (.int x2), some (.int x3), some (.int v_3)], [], m_1) Q) :
    mEs d 126 b g126 (62, [some (.ref x0), some (.int x1), some (.int x2), some (.int x3), some (.int x4)], [], m) Q := by
  refine e_aload_n (pc' := 63) (dAt D126 33 rfl) rfl rfl ?_
  refine e_dup (pc' := 64) (dAt D126 34 rfl) rfl rfl ?_
  refine e_getfield (pc' := 67) (dAt D126 35 rfl) rfl rfl hOx0 (hT.int hOx0 2 (by decide)) ?_
  refine e_iconst (pc' := 68) (v := 1) (dAt D126 36 rfl) rfl (by decide) ?_
  refine e_iadd (pc' := 69) (dAt D126 37 rfl) rfl ?_
  replace h := h _ rfl
  refine e_putfield (pc' := 72) (dAt D126 38 rfl) rfl rfl hOx0 rfl rfl (fun e => by cases e) ?_
  refine wtF hT hOx0 (by decide) (fun hT_2 => ?_)
  replace h := h _ rfl
  refine e_iinc (pc' := 75) (dAt D126 39 rfl) rfl rfl (Nat.le_of_ble_eq_true rfl) (congrArg (_ + ·) (show Int32.ofInt (1) = (1 : Int32) by decide)) rfl ?_
  refine e_goto (t := 3) (dAt D126 40 rfl) ⟨by decide, by decide⟩ ?_
  exact h
-- PlaceNets$Unfolding.joinOthers.(II)V, from 0
set_option maxRecDepth 20000 in
theorem bk127_0 {d b : Nat} {Q : Option Value → mMem → Prop} {m : mMem} {x0 : Nat} {x1 : Int32} {x2 : Int32} {x3 : Option Value} (hT : mWT m) (hOx0 : m.1 x0 = some (.inr 7) ∧ x0 ≠ 0)
    (h : mEv d 128 [.ref (64 * x0 + 9), .int (x1 * 3), .int ((x1 * 3) + 3), .int 0] m (fun r m' => mEs d 127 b g127 (16, [some (.ref x0), some (.int x1), some (.int x2), x3], r.toList ++ [], m') Q)) :
    mEs d 127 b g127 (0, [some (.ref x0), some (.int x1), some (.int x2), x3], [], m) Q := by
  refine e_aload_n (pc' := 1) (dAt D127 0 rfl) rfl rfl ?_
  refine e_getfield (pc' := 4) (dAt D127 1 rfl) rfl rfl hOx0 (hT.own hOx0 8 rfl) ?_
  refine e_iload_n (pc' := 5) (dAt D127 2 rfl) rfl rfl ?_
  refine e_iconst (pc' := 6) (v := 3) (dAt D127 3 rfl) rfl (by decide) ?_
  refine e_imul (pc' := 7) (dAt D127 4 rfl) rfl ?_
  refine e_iload_n (pc' := 8) (dAt D127 5 rfl) rfl rfl ?_
  refine e_iconst (pc' := 9) (v := 3) (dAt D127 6 rfl) rfl (by decide) ?_
  refine e_imul (pc' := 10) (dAt D127 7 rfl) rfl ?_
  refine e_iconst (pc' := 11) (v := 3) (dAt D127 8 rfl) rfl (by decide) ?_
  refine e_iadd (pc' := 12) (dAt D127 9 rfl) rfl ?_
  refine e_iconst (pc' := 13) (v := 0) (dAt D127 10 rfl) rfl (by decide) ?_
  exact e_call2 h (dAt D127 11 rfl) (hi2 rfl) rfl G128 (by decide) rfl (Nat.le_of_ble_eq_true rfl) rfl rfl rfl
-- PlaceNets$Unfolding.joinOthers.(II)V, from 16
set_option maxRecDepth 20000 in
theorem bk127_16 {d b : Nat} {Q : Option Value → mMem → Prop} {m : mMem} {x0 : Nat} {x1 : Int32} {x2 : Int32} {x3 : Option Value} (hT : mWT m) (hOx0 : m.1 x0 = some (.inr 7) ∧ x0 ≠ 0)
    (h : mEs d 127 b g127 (18, [some (.ref x0), some (.int x1), some (.int x2), some (.int 0)], [], m) Q) :
    mEs d 127 b g127 (16, [some (.ref x0), some (.int x1), some (.int x2), x3], [], m) Q := by
  refine e_iconst (pc' := 17) (v := 0) (dAt D127 12 rfl) rfl (by decide) ?_
  refine e_istore_n (pc' := 18) (dAt D127 13 rfl) rfl (Nat.le_of_ble_eq_true rfl) rfl ?_
  exact h
-- PlaceNets$Unfolding.joinOthers.(II)V, from 18
set_option maxRecDepth 20000 in
theorem bk127_18 {d b : Nat} {Q : Option Value → mMem → Prop} {m : mMem} {x0 : Nat} {x1 : Int32} {x2 : Int32} {x3 : Int32} (hT : mWT m) (hOx0 : m.1 x0 = some (.inr 7) ∧ x0 ≠ 0)
    (h : (((x1 ≤ x3) → (Q none m)) ∧ (¬ (x1 ≤ x3) → ((mIn x3 80 = true) ∧ ((((m.2.2.1 (64 * x0 + 8) x3.toNatClampNeg) = x2) → ((mIn ((x1 * 3) + (x3 >>> ((5 : Int32) &&& 31))) 240 = true) ∧ ((mIn ((x1 * 3) + (x3 >>> ((5 : Int32) &&& 31))) 240 = true) ∧ (∀ (m_1 : mMem), m_1 = (mSetI m (64 * x0 + 9) (upd (m.2.2.1 (64 * x0 + 9)) ((x1 * 3) + (x3 >>> ((5 : Int32) &&& 31))).toNatClampNeg ((m.2.2.1 (64 * x0 + 9) ((x1 * 3) + (x3 >>> ((5 : Int32) &&& 31))).toNatClampNeg) ||| ((1 : Int32) <<< ((x3 &&& 31) &&& 31))))) → (mIn ((x3 * 3) + (x1 >>> ((5 : Int32) &&& 31))) 240 = true) ∧ ((mIn ((x3 * 3) + (x1 >>> ((5 : Int32) &&& 31))) 240 = true) ∧ (∀ (m_3 : mMem), m_3 = (mSetI m_1 (64 * x0 + 9) (upd (m_1.2.2.1 (64 * x0 + 9)) ((x3 * 3) + (x1 >>> ((5 : Int32) &&& 31))).toNatClampNeg ((m_1.2.2.1 (64 * x0 + 9) ((x3 * 3) + (x1 >>> ((5 : Int32) &&& 31))).toNatClampNeg) ||| ((1 : Int32) <<< ((x1 &&& 31) &&& 31))))) → ∀ (v_5 : Int32), v_5 = (x3 + 1) → mEs d 127 b g127 (18, [some (.ref x0), some (.int x1), some (.int x2), some (.int v_5)], [], m_3) Q)))))) ∧ (¬ ((m.2.2.1 (64 * x0 + 8) x3.toNatClampNeg) = x2) → ((mIn (x3 >>> ((5 : Int32) &&& 31)) 3 = true) ∧ (((¬ ((((m.2.2.1 (64 * x0 + 13) (x3 >>> ((5 : Int32) &&& 31)).toNatClampNeg).toUInt32 >>> ((x3 &&& 31).toUInt32 &&& Int32.toUInt32 31)).toInt32) &&& 1) = 1) → (∀ (v_6 : Int32), v_6 = (x3 + 1) → mEs d 127 b g127 (18, [some (.ref x0), some (.int x1), some (.int x2), some (.int v_6)], [], m) Q)) ∧ (¬ (¬ ((((m.2.2.1 (64 * x0 + 13) (x3 >>> ((5 : Int32) &&& 31)).toNatClampNeg).toUInt32 >>> ((x3 &&& 31).toUInt32 &&& Int32.toUInt32 31)).toInt32) &&& 1) = 1) → ((mIn ((x1 * 3) + (x3 >>> ((5 : Int32) &&& 31))) 240 = true) ∧ ((mIn ((x1 * 3) + (x3 >>> ((5 : Int32) &&& 31))) 240 = true) ∧ (∀ (m_7 : mMem), m_7 = (mSetI m (64 * x0 + 9) (upd (m.2.2.1 (64 * x0 + 9)) ((x1 * 3) + (x3 >>> ((5 : Int32) &&& 31))).toNatClampNeg ((m.2.2.1 (64 * x0 + 9) ((x1 * 3) + (x3 >>> ((5 : Int32) &&& 31))).toNatClampNeg) ||| ((1 : Int32) <<< ((x3 &&& 31) &&& 31))))) → (mIn ((x3 * 3) + (x1 >>> ((5 : Int32) &&& 31))) 240 = true) ∧ ((mIn ((x3 * 3) + (x1 >>> ((5 : Int32) &&& 31))) 240 = true) ∧ (∀ (m_9 : mMem), m_9 = (mSetI m_7 (64 * x0 + 9) (upd (m_7.2.2.1 (64 * x0 + 9)) ((x3 * 3) + (x1 >>> ((5 : Int32) &&& 31))).toNatClampNeg ((m_7.2.2.1 (64 * x0 + 9) ((x3 * 3) + (x1 >>> ((5 : Int32) &&& 31))).toNatClampNeg) ||| ((1 : Int32) <<< ((x1 &&& 31) &&& 31))))) → ∀ (v_11 : Int32), v_11 = (x3 + 1) → mEs d 127 b g127 (18, [some (.ref x0), some (.int x1), some (.int x2), some (.int v_11)], [], m_9) Q)))))))))))))) :
    mEs d 127 b g127 (18, [some (.ref x0), some (.int x1), some (.int x2), some (.int x3)], [], m) Q := by
  refine e_iload_n (pc' := 19) (dAt D127 14 rfl) rfl rfl ?_
  refine e_iload_n (pc' := 20) (dAt D127 15 rfl) rfl rfl ?_
  refine e_icmp_ge (t := 100) (pc' := 23) (dAt D127 16 rfl) ⟨by decide, by decide⟩ rfl (fun c => ?_) (fun c => ?_)
  · replace h := h.1 c
    exact e_return (dAt D127 75 rfl) rfl h
  · replace h := h.2 c
    refine e_aload_n (pc' := 24) (dAt D127 17 rfl) rfl rfl ?_
    refine e_getfield (pc' := 27) (dAt D127 18 rfl) rfl rfl hOx0 (hT.own hOx0 7 rfl) ?_
    refine e_iload_n (pc' := 28) (dAt D127 19 rfl) rfl rfl ?_
    obtain ⟨f1, h⟩ := h
    refine e_iaload (pc' := 29) (dAt D127 20 rfl) rfl (hT.arr hOx0 7 rfl (by decide)).1 (Or.inl (hT.arr hOx0 7 rfl (by decide)).2) f1 rfl ?_
    refine e_iload_n (pc' := 30) (dAt D127 21 rfl) rfl rfl ?_
    refine e_icmp_eq (t := 52) (pc' := 33) (dAt D127 22 rfl) ⟨by decide, by decide⟩ rfl (fun c => ?_) (fun c => ?_)
    · replace h := h.1 c
      refine e_aload_n (pc' := 53) (dAt D127 37 rfl) rfl rfl ?_
      refine e_getfield (pc' := 56) (dAt D127 38 rfl) rfl rfl hOx0 (hT.own hOx0 8 rfl) ?_
      refine e_iload_n (pc' := 57) (dAt D127 39 rfl) rfl rfl ?_
      refine e_iconst (pc' := 58) (v := 3) (dAt D127 40 rfl) rfl (by decide) ?_
      refine e_imul (pc' := 59) (dAt D127 41 rfl) rfl ?_
      refine e_iload_n (pc' := 60) (dAt D127 42 rfl) rfl rfl ?_
      refine e_iconst (pc' := 61) (v := 5) (dAt D127 43 rfl) rfl (by decide) ?_
      refine e_ishr (pc' := 62) (dAt D127 44 rfl) rfl ?_
      refine e_iadd (pc' := 63) (dAt D127 45 rfl) rfl ?_
      refine e_dup2 (pc' := 64) (dAt D127 46 rfl) rfl ⟨rfl, rfl⟩ ?_
      obtain ⟨f1, h⟩ := h
      refine e_iaload (pc' := 65) (dAt D127 47 rfl) rfl (hT.arr hOx0 8 rfl (by decide)).1 (Or.inl (hT.arr hOx0 8 rfl (by decide)).2) f1 rfl ?_
      refine e_iconst (pc' := 66) (v := 1) (dAt D127 48 rfl) rfl (by decide) ?_
      refine e_iload_n (pc' := 67) (dAt D127 49 rfl) rfl rfl ?_
      refine e_bipush (pc' := 69) (v := 31) (dAt D127 50 rfl) rfl (by decide) ?_
      refine e_iand (pc' := 70) (dAt D127 51 rfl) rfl ?_
      refine e_ishl (pc' := 71) (dAt D127 52 rfl) rfl ?_
      refine e_ior (pc' := 72) (dAt D127 53 rfl) rfl ?_
      obtain ⟨f1, h⟩ := h
      replace h := h _ rfl
      refine e_iastore (pc' := 73) (dAt D127 54 rfl) rfl (hT.arr hOx0 8 rfl (by decide)).1 (hT.arr hOx0 8 rfl (by decide)).2 f1 (nar_i _) ?_
      refine wtI hT (fun hT_2 => ?_)
      refine e_aload_n (pc' := 74) (dAt D127 55 rfl) rfl rfl ?_
      refine e_getfield (pc' := 77) (dAt D127 56 rfl) rfl rfl hOx0 (hT_2.own hOx0 8 rfl) ?_
      refine e_iload_n (pc' := 78) (dAt D127 57 rfl) rfl rfl ?_
      refine e_iconst (pc' := 79) (v := 3) (dAt D127 58 rfl) rfl (by decide) ?_
      refine e_imul (pc' := 80) (dAt D127 59 rfl) rfl ?_
      refine e_iload_n (pc' := 81) (dAt D127 60 rfl) rfl rfl ?_
      refine e_iconst (pc' := 82) (v := 5) (dAt D127 61 rfl) rfl (by decide) ?_
      refine e_ishr (pc' := 83) (dAt D127 62 rfl) rfl ?_
      refine e_iadd (pc' := 84) (dAt D127 63 rfl) rfl ?_
      refine e_dup2 (pc' := 85) (dAt D127 64 rfl) rfl ⟨rfl, rfl⟩ ?_
      obtain ⟨f1, h⟩ := h
      refine e_iaload (pc' := 86) (dAt D127 65 rfl) rfl (hT_2.arr hOx0 8 rfl (by decide)).1 (Or.inl (hT_2.arr hOx0 8 rfl (by decide)).2) f1 rfl ?_
      refine e_iconst (pc' := 87) (v := 1) (dAt D127 66 rfl) rfl (by decide) ?_
      refine e_iload_n (pc' := 88) (dAt D127 67 rfl) rfl rfl ?_
      refine e_bipush (pc' := 90) (v := 31) (dAt D127 68 rfl) rfl (by decide) ?_
      refine e_iand (pc' := 91) (dAt D127 69 rfl) rfl ?_
      refine e_ishl (pc' := 92) (dAt D127 70 rfl) rfl ?_
      refine e_ior (pc' := 93) (dAt D127 71 rfl) rfl ?_
      obtain ⟨f1, h⟩ := h
      replace h := h _ rfl
      refine e_iastore (pc' := 94) (dAt D127 72 rfl) rfl (hT_2.arr hOx0 8 rfl (by decide)).1 (hT_2.arr hOx0 8 rfl (by decide)).2 f1 (nar_i _) ?_
      refine wtI hT_2 (fun hT_4 => ?_)
      replace h := h _ rfl
      refine e_iinc (pc' := 97) (dAt D127 73 rfl) rfl rfl (Nat.le_of_ble_eq_true rfl) (congrArg (_ + ·) (show Int32.ofInt (1) = (1 : Int32) by decide)) rfl ?_
      refine e_goto (t := 18) (dAt D127 74 rfl) ⟨by decide, by decide⟩ ?_
      exact h
    · replace h := h.2 c
      refine e_aload_n (pc' := 34) (dAt D127 23 rfl) rfl rfl ?_
      refine e_getfield (pc' := 37) (dAt D127 24 rfl) rfl rfl hOx0 (hT.own hOx0 12 rfl) ?_
      refine e_iload_n (pc' := 38) (dAt D127 25 rfl) rfl rfl ?_
      refine e_iconst (pc' := 39) (v := 5) (dAt D127 26 rfl) rfl (by decide) ?_
      refine e_ishr (pc' := 40) (dAt D127 27 rfl) rfl ?_
      obtain ⟨f1, h⟩ := h
      refine e_iaload (pc' := 41) (dAt D127 28 rfl) rfl (hT.arr hOx0 12 rfl (by decide)).1 (Or.inl (hT.arr hOx0 12 rfl (by decide)).2) f1 rfl ?_
      refine e_iload_n (pc' := 42) (dAt D127 29 rfl) rfl rfl ?_
      refine e_bipush (pc' := 44) (v := 31) (dAt D127 30 rfl) rfl (by decide) ?_
      refine e_iand (pc' := 45) (dAt D127 31 rfl) rfl ?_
      refine e_iushr (pc' := 46) (dAt D127 32 rfl) rfl ?_
      refine e_iconst (pc' := 47) (v := 1) (dAt D127 33 rfl) rfl (by decide) ?_
      refine e_iand (pc' := 48) (dAt D127 34 rfl) rfl ?_
      refine e_iconst (pc' := 49) (v := 1) (dAt D127 35 rfl) rfl (by decide) ?_
      refine e_icmp_ne (t := 94) (pc' := 52) (dAt D127 36 rfl) ⟨by decide, by decide⟩ rfl (fun c => ?_) (fun c => ?_)
      · replace h := h.1 c
        replace h := h _ rfl
        refine e_iinc (pc' := 97) (dAt D127 73 rfl) rfl rfl (Nat.le_of_ble_eq_true rfl) (congrArg (_ + ·) (show Int32.ofInt (1) = (1 : Int32) by decide)) rfl ?_
        refine e_goto (t := 18) (dAt D127 74 rfl) ⟨by decide, by decide⟩ ?_
        exact h
      · replace h := h.2 c
        refine e_aload_n (pc' := 53) (dAt D127 37 rfl) rfl rfl ?_
        refine e_getfield (pc' := 56) (dAt D127 38 rfl) rfl rfl hOx0 (hT.own hOx0 8 rfl) ?_
        refine e_iload_n (pc' := 57) (dAt D127 39 rfl) rfl rfl ?_
        refine e_iconst (pc' := 58) (v := 3) (dAt D127 40 rfl) rfl (by decide) ?_
        refine e_imul (pc' := 59) (dAt D127 41 rfl) rfl ?_
        refine e_iload_n (pc' := 60) (dAt D127 42 rfl) rfl rfl ?_
        refine e_iconst (pc' := 61) (v := 5) (dAt D127 43 rfl) rfl (by decide) ?_
        refine e_ishr (pc' := 62) (dAt D127 44 rfl) rfl ?_
        refine e_iadd (pc' := 63) (dAt D127 45 rfl) rfl ?_
        refine e_dup2 (pc' := 64) (dAt D127 46 rfl) rfl ⟨rfl, rfl⟩ ?_
        obtain ⟨f1, h⟩ := h
        refine e_iaload (pc' := 65) (dAt D127 47 rfl) rfl (hT.arr hOx0 8 rfl (by decide)).1 (Or.inl (hT.arr hOx0 8 rfl (by decide)).2) f1 rfl ?_
        refine e_iconst (pc' := 66) (v := 1) (dAt D127 48 rfl) rfl (by decide) ?_
        refine e_iload_n (pc' := 67) (dAt D127 49 rfl) rfl rfl ?_
        refine e_bipush (pc' := 69) (v := 31) (dAt D127 50 rfl) rfl (by decide) ?_
        refine e_iand (pc' := 70) (dAt D127 51 rfl) rfl ?_
        refine e_ishl (pc' := 71) (dAt D127 52 rfl) rfl ?_
        refine e_ior (pc' := 72) (dAt D127 53 rfl) rfl ?_
        obtain ⟨f1, h⟩ := h
        replace h := h _ rfl
        refine e_iastore (pc' := 73) (dAt D127 54 rfl) rfl (hT.arr hOx0 8 rfl (by decide)).1 (hT.arr hOx0 8 rfl (by decide)).2 f1 (nar_i _) ?_
        refine wtI hT (fun hT_8 => ?_)
        refine e_aload_n (pc' := 74) (dAt D127 55 rfl) rfl rfl ?_
        refine e_getfield (pc' := 77) (dAt D127 56 rfl) rfl rfl hOx0 (hT_8.own hOx0 8 rfl) ?_
        refine e_iload_n (pc' := 78) (dAt D127 57 rfl) rfl rfl ?_
        refine e_iconst (pc' := 79) (v := 3) (dAt D127 58 rfl) rfl (by decide) ?_
        refine e_imul (pc' := 80) (dAt D127 59 rfl) rfl ?_
        refine e_iload_n (pc' := 81) (dAt D127 60 rfl) rfl rfl ?_
        refine e_iconst (pc' := 82) (v := 5) (dAt D127 61 rfl) rfl (by decide) ?_
        refine e_ishr (pc' := 83) (dAt D127 62 rfl) rfl ?_
        refine e_iadd (pc' := 84) (dAt D127 63 rfl) rfl ?_
        refine e_dup2 (pc' := 85) (dAt D127 64 rfl) rfl ⟨rfl, rfl⟩ ?_
        obtain ⟨f1, h⟩ := h
        refine e_iaload (pc' := 86) (dAt D127 65 rfl) rfl (hT_8.arr hOx0 8 rfl (by decide)).1 (Or.inl (hT_8.arr hOx0 8 rfl (by decide)).2) f1 rfl ?_
        refine e_iconst (pc' := 87) (v := 1) (dAt D127 66 rfl) rfl (by decide) ?_
        refine e_iload_n (pc' := 88) (dAt D127 67 rfl) rfl rfl ?_
        refine e_bipush (pc' := 90) (v := 31) (dAt D127 68 rfl) rfl (by decide) ?_
        refine e_iand (pc' := 91) (dAt D127 69 rfl) rfl ?_
        refine e_ishl (pc' := 92) (dAt D127 70 rfl) rfl ?_
        refine e_ior (pc' := 93) (dAt D127 71 rfl) rfl ?_
        obtain ⟨f1, h⟩ := h
        replace h := h _ rfl
        refine e_iastore (pc' := 94) (dAt D127 72 rfl) rfl (hT_8.arr hOx0 8 rfl (by decide)).1 (hT_8.arr hOx0 8 rfl (by decide)).2 f1 (nar_i _) ?_
        refine wtI hT_8 (fun hT_10 => ?_)
        replace h := h _ rfl
        refine e_iinc (pc' := 97) (dAt D127 73 rfl) rfl rfl (Nat.le_of_ble_eq_true rfl) (congrArg (_ + ·) (show Int32.ofInt (1) = (1 : Int32) by decide)) rfl ?_
        refine e_goto (t := 18) (dAt D127 74 rfl) ⟨by decide, by decide⟩ ?_
        exact h
-- PlaceNets$Unfolding.findEvents.(LPlaceNets$Net;I)V, from 0
set_option maxRecDepth 20000 in
theorem bk130_0 {d b : Nat} {Q : Option Value → mMem → Prop} {m : mMem} {x0 : Nat} {x1 : Nat} {x2 : Int32} {x3 : Option Value} (hT : mWT m) (hOx0 : m.1 x0 = some (.inr 7) ∧ x0 ≠ 0) (hOx1 : m.1 x1 = some (.inr 2) ∧ x1 ≠ 0)
    (h : ∀ (m_1 : mMem), m_1 = (mSetF m x0 18 (.int x2)) → ∀ (m_3 : mMem), m_3 = (mSetF m_1 x0 19 (.int (iF m_1 x0 2))) → mEs d 130 b g130 (15, [some (.ref x0), some (.ref x1), some (.int x2), some (.int 0)], [], m_3) Q) :
    mEs d 130 b g130 (0, [some (.ref x0), some (.ref x1), some (.int x2), x3], [], m) Q := by
  refine e_aload_n (pc' := 1) (dAt D130 0 rfl) rfl rfl ?_
  refine e_iload_n (pc' := 2) (dAt D130 1 rfl) rfl rfl ?_
  replace h := h _ rfl
  refine e_putfield (pc' := 5) (dAt D130 2 rfl) rfl rfl hOx0 rfl rfl (fun e => by cases e) ?_
  refine wtF hT hOx0 (by decide) (fun hT_2 => ?_)
  refine e_aload_n (pc' := 6) (dAt D130 3 rfl) rfl rfl ?_
  refine e_aload_n (pc' := 7) (dAt D130 4 rfl) rfl rfl ?_
  refine e_getfield (pc' := 10) (dAt D130 5 rfl) rfl rfl hOx0 (hT_2.int hOx0 2 (by decide)) ?_
  replace h := h _ rfl
  refine e_putfield (pc' := 13) (dAt D130 6 rfl) rfl rfl hOx0 rfl rfl (fun e => by cases e) ?_
  refine wtF hT_2 hOx0 (by decide) (fun hT_4 => ?_)
  refine e_iconst (pc' := 14) (v := 0) (dAt D130 7 rfl) rfl (by decide) ?_
  refine e_istore_n (pc' := 15) (dAt D130 8 rfl) rfl (Nat.le_of_ble_eq_true rfl) rfl ?_
  exact h
-- PlaceNets$Unfolding.findEvents.(LPlaceNets$Net;I)V, from 15
set_option maxRecDepth 20000 in
theorem bk130_15 {d b : Nat} {Q : Option Value → mMem → Prop} {m : mMem} {x0 : Nat} {x1 : Nat} {x2 : Int32} {x3 : Int32} (hT : mWT m) (hOx0 : m.1 x0 = some (.inr 7) ∧ x0 ≠ 0) (hOx1 : m.1 x1 = some (.inr 2) ∧ x1 ≠ 0) (hd1 : 1 ≤ d)
    (h : ((((iF m x1 1) ≤ x3) → (Q none m)) ∧ (¬ ((iF m x1 1) ≤ x3) → (((¬ (iF m x0 3) = 0) → (Q none m)) ∧ (¬ (¬ (iF m x0 3) = 0) → ((¬ (x3 * 10) < 0 ∧ ¬ (0 : Int32) < 0 ∧ ¬ (10 : Int32) < 0 ∧ (x3 * 10).toNatClampNeg + (10 : Int32).toNatClampNeg ≤ 110 ∧ (0 : Int32).toNatClampNeg + (10 : Int32).toNatClampNeg ≤ 10) ∧ (∀ (m_1 : mMem), m_1 = (mSetI m (64 * x0 + 11) (va_cpy (m.2.2.1 (64 * x1 + 2)) (m.2.2.1 (64 * x0 + 11)) (x3 * 10).toNatClampNeg (0 : Int32).toNatClampNeg (10 : Int32).toNatClampNeg)) → mEv d 125 [.ref x1, .int x3] m_1 (fun r m' => mEs d 130 b g130 (56, [some (.ref x0), some (.ref x1), some (.int x2), some (.int x3)], r.toList ++ [.int x3, .ref x1, .ref x0], m') Q)))))))) :
    mEs d 130 b g130 (15, [some (.ref x0), some (.ref x1), some (.int x2), some (.int x3)], [], m) Q := by
  refine e_iload_n (pc' := 16) (dAt D130 9 rfl) rfl rfl ?_
  refine e_aload_n (pc' := 17) (dAt D130 10 rfl) rfl rfl ?_
  refine e_getfield (pc' := 20) (dAt D130 11 rfl) rfl rfl hOx1 (hT.int hOx1 1 (by decide)) ?_
  refine e_icmp_ge (t := 67) (pc' := 23) (dAt D130 12 rfl) ⟨by decide, by decide⟩ rfl (fun c => ?_) (fun c => ?_)
  · replace h := h.1 c
    exact e_return (dAt D130 37 rfl) rfl h
  · replace h := h.2 c
    refine e_aload_n (pc' := 24) (dAt D130 13 rfl) rfl rfl ?_
    refine e_getfield (pc' := 27) (dAt D130 14 rfl) rfl rfl hOx0 (hT.int hOx0 3 (by decide)) ?_
    refine e_if_ne (t := 67) (pc' := 30) (dAt D130 15 rfl) ⟨by decide, by decide⟩ rfl (fun c => ?_) (fun c => ?_)
    · replace h := h.1 c
      exact e_return (dAt D130 37 rfl) rfl h
    · replace h := h.2 c
      refine e_aload_n (pc' := 31) (dAt D130 16 rfl) rfl rfl ?_
      refine e_getfield (pc' := 34) (dAt D130 17 rfl) rfl rfl hOx1 (hT.own hOx1 1 rfl) ?_
      refine e_iload_n (pc' := 35) (dAt D130 18 rfl) rfl rfl ?_
      refine e_bipush (pc' := 37) (v := 10) (dAt D130 19 rfl) rfl (by decide) ?_
      refine e_imul (pc' := 38) (dAt D130 20 rfl) rfl ?_
      refine e_aload_n (pc' := 39) (dAt D130 21 rfl) rfl rfl ?_
      refine e_getfield (pc' := 42) (dAt D130 22 rfl) rfl rfl hOx0 (hT.own hOx0 10 rfl) ?_
      refine e_iconst (pc' := 43) (v := 0) (dAt D130 23 rfl) rfl (by decide) ?_
      refine e_bipush (pc' := 45) (v := 10) (dAt D130 24 rfl) rfl (by decide) ?_
      obtain ⟨f1, h⟩ := h
      replace h := h _ rfl
      refine e_copy (pc' := 48) (dAt D130 25 rfl) rfl rfl (hT.arr hOx1 1 rfl (by decide)) (hT.arr hOx0 10 rfl (by decide)) f1 ⟨hd1, Nat.le_of_ble_eq_true rfl⟩ ?_
      refine wtI hT (fun hT_2 => ?_)
      refine e_aload_n (pc' := 49) (dAt D130 26 rfl) rfl rfl ?_
      refine e_aload_n (pc' := 50) (dAt D130 27 rfl) rfl rfl ?_
      refine e_iload_n (pc' := 51) (dAt D130 28 rfl) rfl rfl ?_
      refine e_aload_n (pc' := 52) (dAt D130 29 rfl) rfl rfl ?_
      refine e_iload_n (pc' := 53) (dAt D130 30 rfl) rfl rfl ?_
      exact e_call2 h (dAt D130 31 rfl) (hi0 rfl) rfl G125 (by decide) rfl (Nat.le_of_ble_eq_true rfl) (kV hOx1 rfl rfl) rfl rfl
-- PlaceNets$Unfolding.findEvents.(LPlaceNets$Net;I)V, from 56
set_option maxRecDepth 20000 in
theorem bk130_56 {d b : Nat} {Q : Option Value → mMem → Prop} {m : mMem} {x0 : Nat} {x1 : Nat} {x2 : Int32} {x3 : Int32} {y0 : Nat} {y1 : Nat} {y2 : Int32} {y3 : Int32} (hT : mWT m) (hOx0 : m.1 x0 = some (.inr 7) ∧ x0 ≠ 0) (hOx1 : m.1 x1 = some (.inr 2) ∧ x1 ≠ 0) (hOy0 : m.1 y0 = some (.inr 7) ∧ y0 ≠ 0) (hOy1 : m.1 y1 = some (.inr 2) ∧ y1 ≠ 0)
    (h : mEv d 131 [.ref y0, .ref y1, .int y2, .int y3, .int 0, .int 0] m (fun r m' => mEs d 130 b g130 (61, [some (.ref x0), some (.ref x1), some (.int x2), some (.int x3)], r.toList ++ [], m') Q)) :
    mEs d 130 b g130 (56, [some (.ref x0), some (.ref x1), some (.int x2), some (.int x3)], [.int y3, .int y2, .ref y1, .ref y0], m) Q := by
  refine e_iconst (pc' := 57) (v := 0) (dAt D130 32 rfl) rfl (by decide) ?_
  refine e_iconst (pc' := 58) (v := 0) (dAt D130 33 rfl) rfl (by decide) ?_
  exact e_call2 h (dAt D130 34 rfl) (hi0 rfl) rfl G131 (by decide) rfl (Nat.le_of_ble_eq_true rfl) (kV hOy0 rfl rfl) rfl rfl
-- PlaceNets$Unfolding.findEvents.(LPlaceNets$Net;I)V, from 61
set_option maxRecDepth 20000 in
theorem bk130_61 {d b : Nat} {Q : Option Value → mMem → Prop} {m : mMem} {x0 : Nat} {x1 : Nat} {x2 : Int32} {x3 : Int32} (hT : mWT m) (hOx0 : m.1 x0 = some (.inr 7) ∧ x0 ≠ 0) (hOx1 : m.1 x1 = some (.inr 2) ∧ x1 ≠ 0)
    (h : ∀ (v_1 : Int32), v_1 = (x3 + 1) → mEs d 130 b g130 (15, [some (.ref x0), some (.ref x1), some (.int x2), some (.int v_1)], [], m) Q) :
    mEs d 130 b g130 (61, [some (.ref x0), some (.ref x1), some (.int x2), some (.int x3)], [], m) Q := by
  replace h := h _ rfl
  refine e_iinc (pc' := 64) (dAt D130 35 rfl) rfl rfl (Nat.le_of_ble_eq_true rfl) (congrArg (_ + ·) (show Int32.ofInt (1) = (1 : Int32) by decide)) rfl ?_
  refine e_goto (t := 15) (dAt D130 36 rfl) ⟨by decide, by decide⟩ ?_
  exact h
-- PlaceNets$Unfolding.pick.(LPlaceNets$Net;IIII)V, from 0
set_option maxRecDepth 20000 in
theorem bk131_0 {d b : Nat} {Q : Option Value → mMem → Prop} {m : mMem} {x0 : Nat} {x1 : Nat} {x2 : Int32} {x3 : Int32} {x4 : Int32} {x5 : Int32} {x6 : Option Value} {x7 : Option Value} (hT : mWT m) (hOx0 : m.1 x0 = some (.inr 7) ∧ x0 ≠ 0) (hOx1 : m.1 x1 = some (.inr 2) ∧ x1 ≠ 0)
    (h : (((x3 ≤ x4) → (((x3 ≤ 0) → (mEs d 131 b g131 (39, [some (.ref x0), some (.ref x1), some (.int x2), some (.int x3), some (.int x4), some (.int x5), x6, x7], [], m) Q)) ∧ (¬ (x3 ≤ 0) → (mEv d 29 [.int x5] m (fun r m' => mEs d 131 b g131 (21, [some (.ref x0), some (.ref x1), some (.int x2), some (.int x3), some (.int x4), some (.int x5), x6, x7], r.toList ++ [], m') Q))))) ∧ (¬ (x3 ≤ x4) → (((x4 < 3) → (((¬ x4 = 0) → ((mIn (x4 - 1) 3 = true) ∧ (∀ (v_1 : Int32), v_1 = ((m.2.2.1 (64 * x0 + 12) (x4 - 1).toNatClampNeg) + 1) → mEs d 131 b g131 (66, [some (.ref x0), some (.ref x1), some (.int x2), some (.int x3), some (.int x4), some (.int x5), some (.int v_1), some (.int v_1)], [], m) Q))) ∧ (¬ (¬ x4 = 0) → (mEs d 131 b g131 (66, [some (.ref x0), some (.ref x1), some (.int x2), some (.int x3), some (.int x4), some (.int x5), some (.int 0), some (.int 0)], [], m) Q)))) ∧ (¬ (x4 < 3) → (((x3 ≤ 0) → (mEs d 131 b g131 (39, [some (.ref x0), some (.ref x1), some (.int x2), some (.int x3), some (.int x4), some (.int x5), x6, x7], [], m) Q)) ∧ (¬ (x3 ≤ 0) → (mEv d 29 [.int x5] m (fun r m' => mEs d 131 b g131 (21, [some (.ref x0), some (.ref x1), some (.int x2), some (.int x3), some (.int x4), some (.int x5), x6, x7], r.toList ++ [], m') Q))))))))) :
    mEs d 131 b g131 (0, [some (.ref x0), some (.ref x1), some (.int x2), some (.int x3), some (.int x4), some (.int x5), x6, x7], [], m) Q := by
  refine e_iload (pc' := 2) (dAt D131 0 rfl) rfl rfl ?_
  refine e_iload_n (pc' := 3) (dAt D131 1 rfl) rfl rfl ?_
  refine e_icmp_ge (t := 12) (pc' := 6) (dAt D131 2 rfl) ⟨by decide, by decide⟩ rfl (fun c => ?_) (fun c => ?_)
  · replace h := h.1 c
    refine e_iload_n (pc' := 13) (dAt D131 6 rfl) rfl rfl ?_
    refine e_if_le (t := 39) (pc' := 16) (dAt D131 7 rfl) ⟨by decide, by decide⟩ rfl (fun c => ?_) (fun c => ?_)
    · replace h := h.1 c
      exact h
    · replace h := h.2 c
      refine e_iload (pc' := 18) (dAt D131 8 rfl) rfl rfl ?_
      exact e_call2 h (dAt D131 9 rfl) (hi2 rfl) rfl G29 (by decide) rfl (Nat.le_of_ble_eq_true rfl) rfl rfl rfl
  · replace h := h.2 c
    refine e_iload (pc' := 8) (dAt D131 3 rfl) rfl rfl ?_
    refine e_iconst (pc' := 9) (v := 3) (dAt D131 4 rfl) rfl (by decide) ?_
    refine e_icmp_lt (t := 40) (pc' := 12) (dAt D131 5 rfl) ⟨by decide, by decide⟩ rfl (fun c => ?_) (fun c => ?_)
    · replace h := h.1 c
      refine e_iload (pc' := 42) (dAt D131 22 rfl) rfl rfl ?_
      refine e_if_ne (t := 49) (pc' := 45) (dAt D131 23 rfl) ⟨by decide, by decide⟩ rfl (fun c => ?_) (fun c => ?_)
      · replace h := h.1 c
        refine e_aload_n (pc' := 50) (dAt D131 26 rfl) rfl rfl ?_
        refine e_getfield (pc' := 53) (dAt D131 27 rfl) rfl rfl hOx0 (hT.own hOx0 11 rfl) ?_
        refine e_iload (pc' := 55) (dAt D131 28 rfl) rfl rfl ?_
        refine e_iconst (pc' := 56) (v := 1) (dAt D131 29 rfl) rfl (by decide) ?_
        refine e_isub (pc' := 57) (dAt D131 30 rfl) rfl ?_
        obtain ⟨f1, h⟩ := h
        refine e_iaload (pc' := 58) (dAt D131 31 rfl) rfl (hT.arr hOx0 11 rfl (by decide)).1 (Or.inl (hT.arr hOx0 11 rfl (by decide)).2) f1 rfl ?_
        refine e_iconst (pc' := 59) (v := 1) (dAt D131 32 rfl) rfl (by decide) ?_
        refine e_iadd (pc' := 60) (dAt D131 33 rfl) rfl ?_
        replace h := h _ rfl
        refine e_istore (pc' := 62) (dAt D131 34 rfl) rfl (Nat.le_of_ble_eq_true rfl) rfl ?_
        refine e_iload (pc' := 64) (dAt D131 35 rfl) rfl rfl ?_
        refine e_istore (pc' := 66) (dAt D131 36 rfl) rfl (Nat.le_of_ble_eq_true rfl) rfl ?_
        exact h
      · replace h := h.2 c
        refine e_iconst (pc' := 46) (v := 0) (dAt D131 24 rfl) rfl (by decide) ?_
        refine e_goto (t := 60) (dAt D131 25 rfl) ⟨by decide, by decide⟩ ?_
        refine e_istore (pc' := 62) (dAt D131 34 rfl) rfl (Nat.le_of_ble_eq_true rfl) rfl ?_
        refine e_iload (pc' := 64) (dAt D131 35 rfl) rfl rfl ?_
        refine e_istore (pc' := 66) (dAt D131 36 rfl) rfl (Nat.le_of_ble_eq_true rfl) rfl ?_
        exact h
    · replace h := h.2 c
      refine e_iload_n (pc' := 13) (dAt D131 6 rfl) rfl rfl ?_
      refine e_if_le (t := 39) (pc' := 16) (dAt D131 7 rfl) ⟨by decide, by decide⟩ rfl (fun c => ?_) (fun c => ?_)
      · replace h := h.1 c
        exact h
      · replace h := h.2 c
        refine e_iload (pc' := 18) (dAt D131 8 rfl) rfl rfl ?_
        exact e_call2 h (dAt D131 9 rfl) (hi2 rfl) rfl G29 (by decide) rfl (Nat.le_of_ble_eq_true rfl) rfl rfl rfl
-- PlaceNets$Unfolding.pick.(LPlaceNets$Net;IIII)V, from 21
set_option maxRecDepth 20000 in
theorem bk131_21 {d b : Nat} {Q : Option Value → mMem → Prop} {m : mMem} {x0 : Nat} {x1 : Nat} {x2 : Int32} {x3 : Int32} {x4 : Int32} {x5 : Int32} {x6 : Option Value} {x7 : Option Value} {y0 : Int32} (hT : mWT m) (hOx0 : m.1 x0 = some (.inr 7) ∧ x0 ≠ 0) (hOx1 : m.1 x1 = some (.inr 2) ∧ x1 ≠ 0)
    (h : (((¬ (y0 + 1) = (iF m x0 18)) → (mEs d 131 b g131 (39, [some (.ref x0), some (.ref x1), some (.int x2), some (.int x3), some (.int x4), some (.int x5), x6, x7], [], m) Q)) ∧ (¬ (¬ (y0 + 1) = (iF m x0 18)) → (mEv d 132 [.ref x0, .ref x1, .int x2, .int x3, .int x5] m (fun r m' => mEs d 131 b g131 (39, [some (.ref x0), some (.ref x1), some (.int x2), some (.int x3), some (.int x4), some (.int x5), x6, x7], r.toList ++ [], m') Q))))) :
    mEs d 131 b g131 (21, [some (.ref x0), some (.ref x1), some (.int x2), some (.int x3), some (.int x4), some (.int x5), x6, x7], [.int y0], m) Q := by
  refine e_iconst (pc' := 22) (v := 1) (dAt D131 10 rfl) rfl (by decide) ?_
  refine e_iadd (pc' := 23) (dAt D131 11 rfl) rfl ?_
  refine e_aload_n (pc' := 24) (dAt D131 12 rfl) rfl rfl ?_
  refine e_getfield (pc' := 27) (dAt D131 13 rfl) rfl rfl hOx0 (hT.int hOx0 18 (by decide)) ?_
  refine e_icmp_ne (t := 39) (pc' := 30) (dAt D131 14 rfl) ⟨by decide, by decide⟩ rfl (fun c => ?_) (fun c => ?_)
  · replace h := h.1 c
    exact h
  · replace h := h.2 c
    refine e_aload_n (pc' := 31) (dAt D131 15 rfl) rfl rfl ?_
    refine e_aload_n (pc' := 32) (dAt D131 16 rfl) rfl rfl ?_
    refine e_iload_n (pc' := 33) (dAt D131 17 rfl) rfl rfl ?_
    refine e_iload_n (pc' := 34) (dAt D131 18 rfl) rfl rfl ?_
    refine e_iload (pc' := 36) (dAt D131 19 rfl) rfl rfl ?_
    exact e_call2 h (dAt D131 20 rfl) (hi0 rfl) rfl G132 (by decide) rfl (Nat.le_of_ble_eq_true rfl) (kV hOx0 rfl rfl) rfl rfl
-- PlaceNets$Unfolding.pick.(LPlaceNets$Net;IIII)V, from 39
set_option maxRecDepth 20000 in
theorem bk131_39 {d b : Nat} {Q : Option Value → mMem → Prop} {m : mMem} {x0 : Nat} {x1 : Nat} {x2 : Int32} {x3 : Int32} {x4 : Int32} {x5 : Int32} {x6 : Option Value} {x7 : Option Value} (hT : mWT m) (hOx0 : m.1 x0 = some (.inr 7) ∧ x0 ≠ 0) (hOx1 : m.1 x1 = some (.inr 2) ∧ x1 ≠ 0)
    (h : Q none m) :
    mEs d 131 b g131 (39, [some (.ref x0), some (.ref x1), some (.int x2), some (.int x3), some (.int x4), some (.int x5), x6, x7], [], m) Q := by
  exact e_return (dAt D131 21 rfl) rfl h
-- PlaceNets$Unfolding.pick.(LPlaceNets$Net;IIII)V, from 66
set_option maxRecDepth 20000 in
theorem bk131_66 {d b : Nat} {Q : Option Value → mMem → Prop} {m : mMem} {x0 : Nat} {x1 : Nat} {x2 : Int32} {x3 : Int32} {x4 : Int32} {x5 : Int32} {x6 : Int32} {x7 : Int32} (hT : mWT m) (hOx0 : m.1 x0 = some (.inr 7) ∧ x0 ≠ 0) (hOx1 : m.1 x1 = some (.inr 2) ∧ x1 ≠ 0)
    (h : ((((iF m x0 19) ≤ x7) → (Q none m)) ∧ (¬ ((iF m x0 19) ≤ x7) → (((¬ (iF m x0 3) = 0) → (Q none m)) ∧ (¬ (¬ (iF m x0 3) = 0) → (mEv d 138 [.ref x0, .int x7, .int x4] m (fun r m' => mEs d 131 b g131 (90, [some (.ref x0), some (.ref x1), some (.int x2), some (.int x3), some (.int x4), some (.int x5), some (.int x6), some (.int x7)], r.toList ++ [], m') Q))))))) :
    mEs d 131 b g131 (66, [some (.ref x0), some (.ref x1), some (.int x2), some (.int x3), some (.int x4), some (.int x5), some (.int x6), some (.int x7)], [], m) Q := by
  refine e_iload (pc' := 68) (dAt D131 37 rfl) rfl rfl ?_
  refine e_aload_n (pc' := 69) (dAt D131 38 rfl) rfl rfl ?_
  refine e_getfield (pc' := 72) (dAt D131 39 rfl) rfl rfl hOx0 (hT.int hOx0 19 (by decide)) ?_
  refine e_icmp_ge (t := 160) (pc' := 75) (dAt D131 40 rfl) ⟨by decide, by decide⟩ rfl (fun c => ?_) (fun c => ?_)
  · replace h := h.1 c
    exact e_return (dAt D131 91 rfl) rfl h
  · replace h := h.2 c
    refine e_aload_n (pc' := 76) (dAt D131 41 rfl) rfl rfl ?_
    refine e_getfield (pc' := 79) (dAt D131 42 rfl) rfl rfl hOx0 (hT.int hOx0 3 (by decide)) ?_
    refine e_if_ne (t := 160) (pc' := 82) (dAt D131 43 rfl) ⟨by decide, by decide⟩ rfl (fun c => ?_) (fun c => ?_)
    · replace h := h.1 c
      exact e_return (dAt D131 91 rfl) rfl h
    · replace h := h.2 c
      refine e_aload_n (pc' := 83) (dAt D131 44 rfl) rfl rfl ?_
      refine e_iload (pc' := 85) (dAt D131 45 rfl) rfl rfl ?_
      refine e_iload (pc' := 87) (dAt D131 46 rfl) rfl rfl ?_
      exact e_call2 h (dAt D131 47 rfl) (hi0 rfl) rfl G138 (by decide) rfl (Nat.le_of_ble_eq_true rfl) (kV hOx0 rfl rfl) rfl rfl
-- PlaceNets$Unfolding.pick.(LPlaceNets$Net;IIII)V, from 90
set_option maxRecDepth 20000 in
theorem bk131_90 {d b : Nat} {Q : Option Value → mMem → Prop} {m : mMem} {x0 : Nat} {x1 : Nat} {x2 : Int32} {x3 : Int32} {x4 : Int32} {x5 : Int32} {x6 : Int32} {x7 : Int32} {y0 : Int32} (hT : mWT m) (hOx0 : m.1 x0 = some (.inr 7) ∧ x0 ≠ 0) (hOx1 : m.1 x1 = some (.inr 2) ∧ x1 ≠ 0)
    (h : (((y0 = 0) → (∀ (v_1 : Int32), v_1 = (x7 + 1) → mEs d 131 b g131 (66, [some (.ref x0), some (.ref x1), some (.int x2), some (.int x3), some (.int x4), some (.int x5), some (.int x6), some (.int v_1)], [], m) Q)) ∧ (¬ (y0 = 0) → ((mIn x4 3 = true) ∧ (∀ (m_2 : mMem), m_2 = (mSetI m (64 * x0 + 12) (upd (m.2.2.1 (64 * x0 + 12)) x4.toNatClampNeg x7)) → (mIn x7 80 = true) ∧ ((mIn (m_2.2.2.1 (64 * x0 + 7) x7.toNatClampNeg) 10 = true) ∧ ((mIn (m_2.2.2.1 (64 * x0 + 7) x7.toNatClampNeg) 10 = true) ∧ (∀ (m_4 : mMem), m_4 = (mSetI m_2 (64 * x0 + 11) (upd (m_2.2.2.1 (64 * x0 + 11)) (m_2.2.2.1 (64 * x0 + 7) x7.toNatClampNeg).toNatClampNeg ((m_2.2.2.1 (64 * x0 + 11) (m_2.2.2.1 (64 * x0 + 7) x7.toNatClampNeg).toNatClampNeg) - 1))) → mEv d 137 [.ref x0, .int x7] m_4 (fun r m' => mEs d 131 b g131 (134, [some (.ref x0), some (.ref x1), some (.int x2), some (.int x3), some (.int x4), some (.int x5), some (.int x6), some (.int x7)], r.toList ++ [.int x5, .int (x4 + 1), .int x3, .int x2, .ref x1, .ref x0], m') Q))))))))) :
    mEs d 131 b g131 (90, [some (.ref x0), some (.ref x1), some (.int x2), some (.int x3), some (.int x4), some (.int x5), some (.int x6), some (.int x7)], [.int y0], m) Q := by
  refine e_if_eq (t := 154) (pc' := 93) (dAt D131 48 rfl) ⟨by decide, by decide⟩ rfl (fun c => ?_) (fun c => ?_)
  · replace h := h.1 c
    replace h := h _ rfl
    refine e_iinc (pc' := 157) (dAt D131 89 rfl) rfl rfl (Nat.le_of_ble_eq_true rfl) (congrArg (_ + ·) (show Int32.ofInt (1) = (1 : Int32) by decide)) rfl ?_
    refine e_goto (t := 66) (dAt D131 90 rfl) ⟨by decide, by decide⟩ ?_
    exact h
  · replace h := h.2 c
    refine e_aload_n (pc' := 94) (dAt D131 49 rfl) rfl rfl ?_
    refine e_getfield (pc' := 97) (dAt D131 50 rfl) rfl rfl hOx0 (hT.own hOx0 11 rfl) ?_
    refine e_iload (pc' := 99) (dAt D131 51 rfl) rfl rfl ?_
    refine e_iload (pc' := 101) (dAt D131 52 rfl) rfl rfl ?_
    obtain ⟨f1, h⟩ := h
    replace h := h _ rfl
    refine e_iastore (pc' := 102) (dAt D131 53 rfl) rfl (hT.arr hOx0 11 rfl (by decide)).1 (hT.arr hOx0 11 rfl (by decide)).2 f1 (nar_i _) ?_
    refine wtI hT (fun hT_3 => ?_)
    refine e_aload_n (pc' := 103) (dAt D131 54 rfl) rfl rfl ?_
    refine e_getfield (pc' := 106) (dAt D131 55 rfl) rfl rfl hOx0 (hT_3.own hOx0 10 rfl) ?_
    refine e_aload_n (pc' := 107) (dAt D131 56 rfl) rfl rfl ?_
    refine e_getfield (pc' := 110) (dAt D131 57 rfl) rfl rfl hOx0 (hT_3.own hOx0 6 rfl) ?_
    refine e_iload (pc' := 112) (dAt D131 58 rfl) rfl rfl ?_
    obtain ⟨f1, h⟩ := h
    refine e_iaload (pc' := 113) (dAt D131 59 rfl) rfl (hT_3.arr hOx0 6 rfl (by decide)).1 (Or.inl (hT_3.arr hOx0 6 rfl (by decide)).2) f1 rfl ?_
    refine e_dup2 (pc' := 114) (dAt D131 60 rfl) rfl ⟨rfl, rfl⟩ ?_
    obtain ⟨f1, h⟩ := h
    refine e_iaload (pc' := 115) (dAt D131 61 rfl) rfl (hT_3.arr hOx0 10 rfl (by decide)).1 (Or.inl (hT_3.arr hOx0 10 rfl (by decide)).2) f1 rfl ?_
    refine e_iconst (pc' := 116) (v := 1) (dAt D131 62 rfl) rfl (by decide) ?_
    refine e_isub (pc' := 117) (dAt D131 63 rfl) rfl ?_
    obtain ⟨f1, h⟩ := h
    replace h := h _ rfl
    refine e_iastore (pc' := 118) (dAt D131 64 rfl) rfl (hT_3.arr hOx0 10 rfl (by decide)).1 (hT_3.arr hOx0 10 rfl (by decide)).2 f1 (nar_i _) ?_
    refine wtI hT_3 (fun hT_5 => ?_)
    refine e_aload_n (pc' := 119) (dAt D131 65 rfl) rfl rfl ?_
    refine e_aload_n (pc' := 120) (dAt D131 66 rfl) rfl rfl ?_
    refine e_iload_n (pc' := 121) (dAt D131 67 rfl) rfl rfl ?_
    refine e_iload_n (pc' := 122) (dAt D131 68 rfl) rfl rfl ?_
    refine e_iload (pc' := 124) (dAt D131 69 rfl) rfl rfl ?_
    refine e_iconst (pc' := 125) (v := 1) (dAt D131 70 rfl) rfl (by decide) ?_
    refine e_iadd (pc' := 126) (dAt D131 71 rfl) rfl ?_
    refine e_iload (pc' := 128) (dAt D131 72 rfl) rfl rfl ?_
    refine e_aload_n (pc' := 129) (dAt D131 73 rfl) rfl rfl ?_
    refine e_iload (pc' := 131) (dAt D131 74 rfl) rfl rfl ?_
    exact e_call2 h (dAt D131 75 rfl) (hi0 rfl) rfl G137 (by decide) rfl (Nat.le_of_ble_eq_true rfl) (kV hOx0 rfl rfl) rfl rfl
-- PlaceNets$Unfolding.pick.(LPlaceNets$Net;IIII)V, from 134
set_option maxRecDepth 20000 in
theorem bk131_134 {d b : Nat} {Q : Option Value → mMem → Prop} {m : mMem} {x0 : Nat} {x1 : Nat} {x2 : Int32} {x3 : Int32} {x4 : Int32} {x5 : Int32} {x6 : Int32} {x7 : Int32} {y0 : Nat} {y1 : Nat} {y2 : Int32} {y3 : Int32} {y4 : Int32} {y5 : Int32} {y6 : Int32} (hT : mWT m) (hOx0 : m.1 x0 = some (.inr 7) ∧ x0 ≠ 0) (hOx1 : m.1 x1 = some (.inr 2) ∧ x1 ≠ 0) (hOy0 : m.1 y0 = some (.inr 7) ∧ y0 ≠ 0) (hOy1 : m.1 y1 = some (.inr 2) ∧ y1 ≠ 0)
    (h : mEv d 131 [.ref y0, .ref y1, .int y2, .int y3, .int y4, .int (y5 ||| y6)] m (fun r m' => mEs d 131 b g131 (138, [some (.ref x0), some (.ref x1), some (.int x2), some (.int x3), some (.int x4), some (.int x5), some (.int x6), some (.int x7)], r.toList ++ [], m') Q)) :
    mEs d 131 b g131 (134, [some (.ref x0), some (.ref x1), some (.int x2), some (.int x3), some (.int x4), some (.int x5), some (.int x6), some (.int x7)], [.int y6, .int y5, .int y4, .int y3, .int y2, .ref y1, .ref y0], m) Q := by
  refine e_ior (pc' := 135) (dAt D131 76 rfl) rfl ?_
  exact e_call2 h (dAt D131 77 rfl) (hi0 rfl) rfl G131 (by decide) rfl (Nat.le_of_ble_eq_true rfl) (kV hOy0 rfl rfl) rfl rfl
-- PlaceNets$Unfolding.pick.(LPlaceNets$Net;IIII)V, from 138
set_option maxRecDepth 20000 in
theorem bk131_138 {d b : Nat} {Q : Option Value → mMem → Prop} {m : mMem} {x0 : Nat} {x1 : Nat} {x2 : Int32} {x3 : Int32} {x4 : Int32} {x5 : Int32} {x6 : Int32} {x7 : Int32} (hT : mWT m) (hOx0 : m.1 x0 = some (.inr 7) ∧ x0 ≠ 0) (hOx1 : m.1 x1 = some (.inr 2) ∧ x1 ≠ 0)
    (h : (mIn x7 80 = true) ∧ ((mIn (m.2.2.1 (64 * x0 + 7) x7.toNatClampNeg) 10 = true) ∧ ((mIn (m.2.2.1 (64 * x0 + 7) x7.toNatClampNeg) 10 = true) ∧ (∀ (m_1 : mMem), m_1 = (mSetI m (64 * x0 + 11) (upd (m.2.2.1 (64 * x0 + 11)) (m.2.2.1 (64 * x0 + 7) x7.toNatClampNeg).toNatClampNeg ((m.2.2.1 (64 * x0 + 11) (m.2.2.1 (64 * x0 + 7) x7.toNatClampNeg).toNatClampNeg) + 1))) → ∀ (v_3 : Int32), v_3 = (x7 + 1) → mEs d 131 b g131 (66, [some (.ref x0), some (.ref x1), some (.int x2), some (.int x3), some (.int x4), some (.int x5), some (.int x6), some (.int v_3)], [], m_1) Q)))) :
    mEs d 131 b g131 (138, [some (.ref x0), some (.ref x1), some (.int x2), some (.int x3), some (.int x4), some (.int x5), some (.int x6), some (.int x7)], [], m) Q := by
  refine e_aload_n (pc' := 139) (dAt D131 78 rfl) rfl rfl ?_
  refine e_getfield (pc' := 142) (dAt D131 79 rfl) rfl rfl hOx0 (hT.own hOx0 10 rfl) ?_
  refine e_aload_n (pc' := 143) (dAt D131 80 rfl) rfl rfl ?_
  refine e_getfield (pc' := 146) (dAt D131 81 rfl) rfl rfl hOx0 (hT.own hOx0 6 rfl) ?_
  refine e_iload (pc' := 148) (dAt D131 82 rfl) rfl rfl ?_
  obtain ⟨f1, h⟩ := h
  refine e_iaload (pc' := 149) (dAt D131 83 rfl) rfl (hT.arr hOx0 6 rfl (by decide)).1 (Or.inl (hT.arr hOx0 6 rfl (by decide)).2) f1 rfl ?_
  refine e_dup2 (pc' := 150) (dAt D131 84 rfl) rfl ⟨rfl, rfl⟩ ?_
  obtain ⟨f1, h⟩ := h
  refine e_iaload (pc' := 151) (dAt D131 85 rfl) rfl (hT.arr hOx0 10 rfl (by decide)).1 (Or.inl (hT.arr hOx0 10 rfl (by decide)).2) f1 rfl ?_
  refine e_iconst (pc' := 152) (v := 1) (dAt D131 86 rfl) rfl (by decide) ?_
  refine e_iadd (pc' := 153) (dAt D131 87 rfl) rfl ?_
  obtain ⟨f1, h⟩ := h
  replace h := h _ rfl
  refine e_iastore (pc' := 154) (dAt D131 88 rfl) rfl (hT.arr hOx0 10 rfl (by decide)).1 (hT.arr hOx0 10 rfl (by decide)).2 f1 (nar_i _) ?_
  refine wtI hT (fun hT_2 => ?_)
  replace h := h _ rfl
  refine e_iinc (pc' := 157) (dAt D131 89 rfl) rfl rfl (Nat.le_of_ble_eq_true rfl) (congrArg (_ + ·) (show Int32.ofInt (1) = (1 : Int32) by decide)) rfl ?_
  refine e_goto (t := 66) (dAt D131 90 rfl) ⟨by decide, by decide⟩ ?_
  exact h
-- PlaceNets$Unfolding.addEvent.(LPlaceNets$Net;III)V, from 0
set_option maxRecDepth 20000 in
theorem bk132_0 {d b : Nat} {Q : Option Value → mMem → Prop} {m : mMem} {x0 : Nat} {x1 : Nat} {x2 : Int32} {x3 : Int32} {x4 : Int32} {x5 : Option Value} {x6 : Option Value} (hT : mWT m) (hOx0 : m.1 x0 = some (.inr 7) ∧ x0 ≠ 0) (hOx1 : m.1 x1 = some (.inr 2) ∧ x1 ≠ 0) (hd1 : 1 ≤ d)
    (h : ((((iF m x0 1) < 30) → (∀ (v_1 : Int32), v_1 = (iF m x0 1) → ∀ (m_2 : mMem), m_2 = (mSetF m x0 1 (.int ((iF m x0 1) + 1))) → (mIn v_1 30 = true) ∧ (∀ (m_4 : mMem), m_4 = (mSetI m_2 (64 * x0 + 2) (upd (m_2.2.2.1 (64 * x0 + 2)) v_1.toNatClampNeg x2)) → (mIn v_1 30 = true) ∧ (∀ (m_6 : mMem), m_6 = (mSetI m_4 (64 * x0 + 3) (upd (m_4.2.2.1 (64 * x0 + 3)) v_1.toNatClampNeg (x4 ||| ((1 : Int32) <<< (v_1 &&& 31))))) → (mIn v_1 30 = true) ∧ (∀ (m_8 : mMem), m_8 = (mSetI m_6 (64 * x0 + 6) (upd (m_6.2.2.1 (64 * x0 + 6)) v_1.toNatClampNeg x3)) → (¬ (0 : Int32) < 0 ∧ ¬ (v_1 * 3) < 0 ∧ ¬ x3 < 0 ∧ (0 : Int32).toNatClampNeg + x3.toNatClampNeg ≤ 3 ∧ (v_1 * 3).toNatClampNeg + x3.toNatClampNeg ≤ 90) ∧ (∀ (m_10 : mMem), m_10 = (mSetI m_8 (64 * x0 + 5) (va_cpy (m_8.2.2.1 (64 * x0 + 12)) (m_8.2.2.1 (64 * x0 + 5)) (0 : Int32).toNatClampNeg (v_1 * 3).toNatClampNeg x3.toNatClampNeg)) → mEv d 133 [.ref x0, .ref x1, .int v_1] m_10 (fun r m' => mEs d 132 b g132 (85, [some (.ref x0), some (.ref x1), some (.int x2), some (.int x3), some (.int x4), some (.int v_1), x6], r.toList ++ [], m') Q))))))) ∧ (¬ ((iF m x0 1) < 30) → (∀ (m_12 : mMem), m_12 = (mSetF m x0 3 (.int 1)) → Q none m_12)))) :
    mEs d 132 b g132 (0, [some (.ref x0), some (.ref x1), some (.int x2), some (.int x3), some (.int x4), x5, x6], [], m) Q := by
  refine e_aload_n (pc' := 1) (dAt D132 0 rfl) rfl rfl ?_
  refine e_getfield (pc' := 4) (dAt D132 1 rfl) rfl rfl hOx0 (hT.int hOx0 1 (by decide)) ?_
  refine e_bipush (pc' := 6) (v := 30) (dAt D132 2 rfl) rfl (by decide) ?_
  refine e_icmp_lt (t := 15) (pc' := 9) (dAt D132 3 rfl) ⟨by decide, by decide⟩ rfl (fun c => ?_) (fun c => ?_)
  · replace h := h.1 c
    refine e_aload_n (pc' := 16) (dAt D132 8 rfl) rfl rfl ?_
    refine e_getfield (pc' := 19) (dAt D132 9 rfl) rfl rfl hOx0 (hT.int hOx0 1 (by decide)) ?_
    replace h := h _ rfl
    refine e_istore (pc' := 21) (dAt D132 10 rfl) rfl (Nat.le_of_ble_eq_true rfl) rfl ?_
    refine e_aload_n (pc' := 22) (dAt D132 11 rfl) rfl rfl ?_
    refine e_dup (pc' := 23) (dAt D132 12 rfl) rfl rfl ?_
    refine e_getfield (pc' := 26) (dAt D132 13 rfl) rfl rfl hOx0 (hT.int hOx0 1 (by decide)) ?_
    refine e_iconst (pc' := 27) (v := 1) (dAt D132 14 rfl) rfl (by decide) ?_
    refine e_iadd (pc' := 28) (dAt D132 15 rfl) rfl ?_
    replace h := h _ rfl
    refine e_putfield (pc' := 31) (dAt D132 16 rfl) rfl rfl hOx0 rfl rfl (fun e => by cases e) ?_
    refine wtF hT hOx0 (by decide) (fun hT_3 => ?_)
    refine e_aload_n (pc' := 32) (dAt D132 17 rfl) rfl rfl ?_
    refine e_getfield (pc' := 35) (dAt D132 18 rfl) rfl rfl hOx0 (hT_3.own hOx0 1 rfl) ?_
    refine e_iload (pc' := 37) (dAt D132 19 rfl) rfl rfl ?_
    refine e_iload_n (pc' := 38) (dAt D132 20 rfl) rfl rfl ?_
    obtain ⟨f1, h⟩ := h
    replace h := h _ rfl
    refine e_iastore (pc' := 39) (dAt D132 21 rfl) rfl (hT_3.arr hOx0 1 rfl (by decide)).1 (hT_3.arr hOx0 1 rfl (by decide)).2 f1 (nar_i _) ?_
    refine wtI hT_3 (fun hT_5 => ?_)
    refine e_aload_n (pc' := 40) (dAt D132 22 rfl) rfl rfl ?_
    refine e_getfield (pc' := 43) (dAt D132 23 rfl) rfl rfl hOx0 (hT_5.own hOx0 2 rfl) ?_
    refine e_iload (pc' := 45) (dAt D132 24 rfl) rfl rfl ?_
    refine e_iload (pc' := 47) (dAt D132 25 rfl) rfl rfl ?_
    refine e_iconst (pc' := 48) (v := 1) (dAt D132 26 rfl) rfl (by decide) ?_
    refine e_iload (pc' := 50) (dAt D132 27 rfl) rfl rfl ?_
    refine e_ishl (pc' := 51) (dAt D132 28 rfl) rfl ?_
    refine e_ior (pc' := 52) (dAt D132 29 rfl) rfl ?_
    obtain ⟨f1, h⟩ := h
    replace h := h _ rfl
    refine e_iastore (pc' := 53) (dAt D132 30 rfl) rfl (hT_5.arr hOx0 2 rfl (by decide)).1 (hT_5.arr hOx0 2 rfl (by decide)).2 f1 (nar_i _) ?_
    refine wtI hT_5 (fun hT_7 => ?_)
    refine e_aload_n (pc' := 54) (dAt D132 31 rfl) rfl rfl ?_
    refine e_getfield (pc' := 57) (dAt D132 32 rfl) rfl rfl hOx0 (hT_7.own hOx0 5 rfl) ?_
    refine e_iload (pc' := 59) (dAt D132 33 rfl) rfl rfl ?_
    refine e_iload_n (pc' := 60) (dAt D132 34 rfl) rfl rfl ?_
    obtain ⟨f1, h⟩ := h
    replace h := h _ rfl
    refine e_iastore (pc' := 61) (dAt D132 35 rfl) rfl (hT_7.arr hOx0 5 rfl (by decide)).1 (hT_7.arr hOx0 5 rfl (by decide)).2 f1 (nar_i _) ?_
    refine wtI hT_7 (fun hT_9 => ?_)
    refine e_aload_n (pc' := 62) (dAt D132 36 rfl) rfl rfl ?_
    refine e_getfield (pc' := 65) (dAt D132 37 rfl) rfl rfl hOx0 (hT_9.own hOx0 11 rfl) ?_
    refine e_iconst (pc' := 66) (v := 0) (dAt D132 38 rfl) rfl (by decide) ?_
    refine e_aload_n (pc' := 67) (dAt D132 39 rfl) rfl rfl ?_
    refine e_getfield (pc' := 70) (dAt D132 40 rfl) rfl rfl hOx0 (hT_9.own hOx0 4 rfl) ?_
    refine e_iload (pc' := 72) (dAt D132 41 rfl) rfl rfl ?_
    refine e_iconst (pc' := 73) (v := 3) (dAt D132 42 rfl) rfl (by decide) ?_
    refine e_imul (pc' := 74) (dAt D132 43 rfl) rfl ?_
    refine e_iload_n (pc' := 75) (dAt D132 44 rfl) rfl rfl ?_
    obtain ⟨f1, h⟩ := h
    replace h := h _ rfl
    refine e_copy (pc' := 78) (dAt D132 45 rfl) rfl rfl (hT_9.arr hOx0 11 rfl (by decide)) (hT_9.arr hOx0 4 rfl (by decide)) f1 ⟨hd1, Nat.le_of_ble_eq_true rfl⟩ ?_
    refine wtI hT_9 (fun hT_11 => ?_)
    refine e_aload_n (pc' := 79) (dAt D132 46 rfl) rfl rfl ?_
    refine e_aload_n (pc' := 80) (dAt D132 47 rfl) rfl rfl ?_
    refine e_iload (pc' := 82) (dAt D132 48 rfl) rfl rfl ?_
    exact e_call2 h (dAt D132 49 rfl) (hi0 rfl) rfl G133 (by decide) rfl (Nat.le_of_ble_eq_true rfl) (kV hOx0 rfl rfl) rfl rfl
  · replace h := h.2 c
    refine e_aload_n (pc' := 10) (dAt D132 4 rfl) rfl rfl ?_
    refine e_iconst (pc' := 11) (v := 1) (dAt D132 5 rfl) rfl (by decide) ?_
    replace h := h _ rfl
    refine e_putfield (pc' := 14) (dAt D132 6 rfl) rfl rfl hOx0 rfl rfl (fun e => by cases e) ?_
    refine wtF hT hOx0 (by decide) (fun hT_13 => ?_)
    exact e_return (dAt D132 7 rfl) rfl h
-- PlaceNets$Unfolding.addEvent.(LPlaceNets$Net;III)V, from 85
set_option maxRecDepth 20000 in
theorem bk132_85 {d b : Nat} {Q : Option Value → mMem → Prop} {m : mMem} {x0 : Nat} {x1 : Nat} {x2 : Int32} {x3 : Int32} {x4 : Int32} {x5 : Int32} {x6 : Option Value} (hT : mWT m) (hOx0 : m.1 x0 = some (.inr 7) ∧ x0 ≠ 0) (hOx1 : m.1 x1 = some (.inr 2) ∧ x1 ≠ 0)
    (h : mEv d 134 [.ref x0, .int x5] m (fun r m' => mEs d 132 b g132 (97, [some (.ref x0), some (.ref x1), some (.int x2), some (.int x3), some (.int x4), some (.int x5), x6], r.toList ++ [.int x5, .ref (64 * x0 + 4)], m') Q)) :
    mEs d 132 b g132 (85, [some (.ref x0), some (.ref x1), some (.int x2), some (.int x3), some (.int x4), some (.int x5), x6], [], m) Q := by
  refine e_aload_n (pc' := 86) (dAt D132 50 rfl) rfl rfl ?_
  refine e_getfield (pc' := 89) (dAt D132 51 rfl) rfl rfl hOx0 (hT.own hOx0 3 rfl) ?_
  refine e_iload (pc' := 91) (dAt D132 52 rfl) rfl rfl ?_
  refine e_aload_n (pc' := 92) (dAt D132 53 rfl) rfl rfl ?_
  refine e_iload (pc' := 94) (dAt D132 54 rfl) rfl rfl ?_
  exact e_call2 h (dAt D132 55 rfl) (hi0 rfl) rfl G134 (by decide) rfl (Nat.le_of_ble_eq_true rfl) (kV hOx0 rfl rfl) rfl rfl
-- PlaceNets$Unfolding.addEvent.(LPlaceNets$Net;III)V, from 97
set_option maxRecDepth 20000 in
theorem bk132_97 {d b : Nat} {Q : Option Value → mMem → Prop} {m : mMem} {x0 : Nat} {x1 : Nat} {x2 : Int32} {x3 : Int32} {x4 : Int32} {x5 : Int32} {x6 : Option Value} {y0 : Nat} {ly0 : Nat} {y1 : Int32} {y2 : Int32} (hT : mWT m) (hOx0 : m.1 x0 = some (.inr 7) ∧ x0 ≠ 0) (hOx1 : m.1 x1 = some (.inr 2) ∧ x1 ≠ 0) (hAy0 : m.1 y0 = some (.inl (.boolean, ly0)) ∧ y0 ≠ 0)
    (h : (mIn y1 ly0 = true) ∧ ((y2 = 0 ∨ y2 = 1) ∧ (∀ (m_1 : mMem), m_1 = (mSetI m y0 (upd (m.2.2.1 y0) y1.toNatClampNeg y2)) → mEv d 136 [.ref x0, .int x3] m_1 (fun r m' => mEs d 132 b g132 (103, [some (.ref x0), some (.ref x1), some (.int x2), some (.int x3), some (.int x4), some (.int x5), x6], r.toList ++ [], m') Q)))) :
    mEs d 132 b g132 (97, [some (.ref x0), some (.ref x1), some (.int x2), some (.int x3), some (.int x4), some (.int x5), x6], [.int y2, .int y1, .ref y0], m) Q := by
  obtain ⟨f1, h⟩ := h
  obtain ⟨f9, h⟩ := h
  replace h := h _ rfl
  refine e_zastore (pc' := 98) (dAt D132 56 rfl) rfl hAy0.1 hAy0.2 f1 (vz01 f9) ?_
  refine wtI hT (fun hT_2 => ?_)
  refine e_aload_n (pc' := 99) (dAt D132 57 rfl) rfl rfl ?_
  refine e_iload_n (pc' := 100) (dAt D132 58 rfl) rfl rfl ?_
  exact e_call2 h (dAt D132 59 rfl) (hi0 rfl) rfl G136 (by decide) rfl (Nat.le_of_ble_eq_true rfl) (kV hOx0 rfl rfl) rfl rfl
-- PlaceNets$Unfolding.addEvent.(LPlaceNets$Net;III)V, from 103
set_option maxRecDepth 20000 in
theorem bk132_103 {d b : Nat} {Q : Option Value → mMem → Prop} {m : mMem} {x0 : Nat} {x1 : Nat} {x2 : Int32} {x3 : Int32} {x4 : Int32} {x5 : Int32} {x6 : Option Value} (hT : mWT m) (hOx0 : m.1 x0 = some (.inr 7) ∧ x0 ≠ 0) (hOx1 : m.1 x1 = some (.inr 2) ∧ x1 ≠ 0)
    (h : mEs d 132 b g132 (106, [some (.ref x0), some (.ref x1), some (.int x2), some (.int x3), some (.int x4), some (.int x5), some (.int 0)], [], m) Q) :
    mEs d 132 b g132 (103, [some (.ref x0), some (.ref x1), some (.int x2), some (.int x3), some (.int x4), some (.int x5), x6], [], m) Q := by
  refine e_iconst (pc' := 104) (v := 0) (dAt D132 60 rfl) rfl (by decide) ?_
  refine e_istore (pc' := 106) (dAt D132 61 rfl) rfl (Nat.le_of_ble_eq_true rfl) rfl ?_
  exact h
-- PlaceNets$Unfolding.addEvent.(LPlaceNets$Net;III)V, from 106
set_option maxRecDepth 20000 in
theorem bk132_106 {d b : Nat} {Q : Option Value → mMem → Prop} {m : mMem} {x0 : Nat} {x1 : Nat} {x2 : Int32} {x3 : Int32} {x4 : Int32} {x5 : Int32} {x6 : Int32} (hT : mWT m) (hOx0 : m.1 x0 = some (.inr 7) ∧ x0 ≠ 0) (hOx1 : m.1 x1 = some (.inr 2) ∧ x1 ≠ 0)
    (h : ((((iF m x0 17) ≤ x6) → (Q none m)) ∧ (¬ ((iF m x0 17) ≤ x6) → ((mIn ((x2 * 10) + x6) 110 = true) ∧ (mEv d 126 [.ref x0, .int x6, .int (m.2.2.1 (64 * x1 + 3) ((x2 * 10) + x6).toNatClampNeg), .int x5] m (fun r m' => mEs d 132 b g132 (135, [some (.ref x0), some (.ref x1), some (.int x2), some (.int x3), some (.int x4), some (.int x5), some (.int x6)], r.toList ++ [], m') Q)))))) :
    mEs d 132 b g132 (106, [some (.ref x0), some (.ref x1), some (.int x2), some (.int x3), some (.int x4), some (.int x5), some (.int x6)], [], m) Q := by
  refine e_iload (pc' := 108) (dAt D132 62 rfl) rfl rfl ?_
  refine e_aload_n (pc' := 109) (dAt D132 63 rfl) rfl rfl ?_
  refine e_getfield (pc' := 112) (dAt D132 64 rfl) rfl rfl hOx0 (hT.int hOx0 17 (by decide)) ?_
  refine e_icmp_ge (t := 141) (pc' := 115) (dAt D132 65 rfl) ⟨by decide, by decide⟩ rfl (fun c => ?_) (fun c => ?_)
  · replace h := h.1 c
    exact e_return (dAt D132 80 rfl) rfl h
  · replace h := h.2 c
    refine e_aload_n (pc' := 116) (dAt D132 66 rfl) rfl rfl ?_
    refine e_iload (pc' := 118) (dAt D132 67 rfl) rfl rfl ?_
    refine e_aload_n (pc' := 119) (dAt D132 68 rfl) rfl rfl ?_
    refine e_getfield (pc' := 122) (dAt D132 69 rfl) rfl rfl hOx1 (hT.own hOx1 2 rfl) ?_
    refine e_iload_n (pc' := 123) (dAt D132 70 rfl) rfl rfl ?_
    refine e_bipush (pc' := 125) (v := 10) (dAt D132 71 rfl) rfl (by decide) ?_
    refine e_imul (pc' := 126) (dAt D132 72 rfl) rfl ?_
    refine e_iload (pc' := 128) (dAt D132 73 rfl) rfl rfl ?_
    refine e_iadd (pc' := 129) (dAt D132 74 rfl) rfl ?_
    obtain ⟨f1, h⟩ := h
    refine e_iaload (pc' := 130) (dAt D132 75 rfl) rfl (hT.arr hOx1 2 rfl (by decide)).1 (Or.inl (hT.arr hOx1 2 rfl (by decide)).2) f1 rfl ?_
    refine e_iload (pc' := 132) (dAt D132 76 rfl) rfl rfl ?_
    exact e_call2 h (dAt D132 77 rfl) (hi0 rfl) rfl G126 (by decide) rfl (Nat.le_of_ble_eq_true rfl) (kV hOx0 rfl rfl) rfl rfl
-- PlaceNets$Unfolding.addEvent.(LPlaceNets$Net;III)V, from 135
set_option maxRecDepth 20000 in
theorem bk132_135 {d b : Nat} {Q : Option Value → mMem → Prop} {m : mMem} {x0 : Nat} {x1 : Nat} {x2 : Int32} {x3 : Int32} {x4 : Int32} {x5 : Int32} {x6 : Int32} (hT : mWT m) (hOx0 : m.1 x0 = some (.inr 7) ∧ x0 ≠ 0) (hOx1 : m.1 x1 = some (.inr 2) ∧ x1 ≠ 0)
    (h : ∀ (v_1 : Int32), v_1 = (x6 + 1) → mEs d 132 b g132 (106, [some (.ref x0), some (.ref x1), some (.int x2), some (.int x3), some (.int x4), some (.int x5), some (.int v_1)], [], m) Q) :
    mEs d 132 b g132 (135, [some (.ref x0), some (.ref x1), some (.int x2), some (.int x3), some (.int x4), some (.int x5), some (.int x6)], [], m) Q := by
  replace h := h _ rfl
  refine e_iinc (pc' := 138) (dAt D132 78 rfl) rfl rfl (Nat.le_of_ble_eq_true rfl) (congrArg (_ + ·) (show Int32.ofInt (1) = (1 : Int32) by decide)) rfl ?_
  refine e_goto (t := 106) (dAt D132 79 rfl) ⟨by decide, by decide⟩ ?_
  exact h
-- PlaceNets$Unfolding.leave.(LPlaceNets$Net;I)V, from 0
set_option maxRecDepth 20000 in
theorem bk133_0 {d b : Nat} {Q : Option Value → mMem → Prop} {m : mMem} {x0 : Nat} {x1 : Nat} {x2 : Int32} {x3 : Option Value} {x4 : Option Value} {x5 : Option Value} (hT : mWT m) (hOx0 : m.1 x0 = some (.inr 7) ∧ x0 ≠ 0) (hOx1 : m.1 x1 = some (.inr 2) ∧ x1 ≠ 0)
    (h : mEs d 133 b g133 (2, [some (.ref x0), some (.ref x1), some (.int x2), some (.int 0), x4, x5], [], m) Q) :
    mEs d 133 b g133 (0, [some (.ref x0), some (.ref x1), some (.int x2), x3, x4, x5], [], m) Q := by
  refine e_iconst (pc' := 1) (v := 0) (dAt D133 0 rfl) rfl (by decide) ?_
  refine e_istore_n (pc' := 2) (dAt D133 1 rfl) rfl (Nat.le_of_ble_eq_true rfl) rfl ?_
  exact h
-- PlaceNets$Unfolding.leave.(LPlaceNets$Net;I)V, from 2
set_option maxRecDepth 20000 in
theorem bk133_2 {d b : Nat} {Q : Option Value → mMem → Prop} {m : mMem} {x0 : Nat} {x1 : Nat} {x2 : Int32} {x3 : Int32} {x4 : Option Value} {x5 : Option Value} (hT : mWT m) (hOx0 : m.1 x0 = some (.inr 7) ∧ x0 ≠ 0) (hOx1 : m.1 x1 = some (.inr 2) ∧ x1 ≠ 0)
    (h : ((((iF m x0 17) ≤ x3) → (Q none m)) ∧ (¬ ((iF m x0 17) ≤ x3) → ((mIn x3 10 = true) ∧ (∀ (v_1 : Int32), v_1 = (m.2.2.1 (64 * x0 + 10) x3.toNatClampNeg) → mEs d 133 b g133 (21, [some (.ref x0), some (.ref x1), some (.int x2), some (.int x3), some (.int v_1), some (.int 0)], [], m) Q))))) :
    mEs d 133 b g133 (2, [some (.ref x0), some (.ref x1), some (.int x2), some (.int x3), x4, x5], [], m) Q := by
  refine e_iload_n (pc' := 3) (dAt D133 2 rfl) rfl rfl ?_
  refine e_aload_n (pc' := 4) (dAt D133 3 rfl) rfl rfl ?_
  refine e_getfield (pc' := 7) (dAt D133 4 rfl) rfl rfl hOx0 (hT.int hOx0 17 (by decide)) ?_
  refine e_icmp_ge (t := 84) (pc' := 10) (dAt D133 5 rfl) ⟨by decide, by decide⟩ rfl (fun c => ?_) (fun c => ?_)
  · replace h := h.1 c
    exact e_return (dAt D133 49 rfl) rfl h
  · replace h := h.2 c
    refine e_aload_n (pc' := 11) (dAt D133 6 rfl) rfl rfl ?_
    refine e_getfield (pc' := 14) (dAt D133 7 rfl) rfl rfl hOx0 (hT.own hOx0 9 rfl) ?_
    refine e_iload_n (pc' := 15) (dAt D133 8 rfl) rfl rfl ?_
    obtain ⟨f1, h⟩ := h
    refine e_iaload (pc' := 16) (dAt D133 9 rfl) rfl (hT.arr hOx0 9 rfl (by decide)).1 (Or.inl (hT.arr hOx0 9 rfl (by decide)).2) f1 rfl ?_
    replace h := h _ rfl
    refine e_istore (pc' := 18) (dAt D133 10 rfl) rfl (Nat.le_of_ble_eq_true rfl) rfl ?_
    refine e_iconst (pc' := 19) (v := 0) (dAt D133 11 rfl) rfl (by decide) ?_
    refine e_istore (pc' := 21) (dAt D133 12 rfl) rfl (Nat.le_of_ble_eq_true rfl) rfl ?_
    exact h
-- PlaceNets$Unfolding.leave.(LPlaceNets$Net;I)V, from 21
set_option maxRecDepth 20000 in
theorem bk133_21 {d b : Nat} {Q : Option Value → mMem → Prop} {m : mMem} {x0 : Nat} {x1 : Nat} {x2 : Int32} {x3 : Int32} {x4 : Int32} {x5 : Int32} (hT : mWT m) (hOx0 : m.1 x0 = some (.inr 7) ∧ x0 ≠ 0) (hOx1 : m.1 x1 = some (.inr 2) ∧ x1 ≠ 0)
    (h : (((x2 < x5) → ((mIn ((x2 * 10) + x3) 300 = true) ∧ (∀ (m_1 : mMem), m_1 = (mSetI m (64 * x0 + 1) (upd (m.2.2.1 (64 * x0 + 1)) ((x2 * 10) + x3).toNatClampNeg x4)) → ∀ (v_3 : Int32), v_3 = (x3 + 1) → mEs d 133 b g133 (2, [some (.ref x0), some (.ref x1), some (.int x2), some (.int v_3), some (.int x4), some (.int x5)], [], m_1) Q))) ∧ (¬ (x2 < x5) → ((mIn x2 30 = true) ∧ (((¬ (((m.2.2.1 (64 * x0 + 3) x2.toNatClampNeg) >>> (x5 &&& 31)) &&& 1) = 1) → (∀ (v_4 : Int32), v_4 = (x5 + 1) → mEs d 133 b g133 (21, [some (.ref x0), some (.ref x1), some (.int x2), some (.int x3), some (.int x4), some (.int v_4)], [], m) Q)) ∧ (¬ (¬ (((m.2.2.1 (64 * x0 + 3) x2.toNatClampNeg) >>> (x5 &&& 31)) &&& 1) = 1) → ((mIn x5 30 = true) ∧ (mEv d 28 [.ref x1, .int (m.2.2.1 (64 * x0 + 2) x5.toNatClampNeg), .int x3] m (fun r m' => mEs d 133 b g133 (56, [some (.ref x0), some (.ref x1), some (.int x2), some (.int x3), some (.int x4), some (.int x5)], r.toList ++ [.int x4], m') Q))))))))) :
    mEs d 133 b g133 (21, [some (.ref x0), some (.ref x1), some (.int x2), some (.int x3), some (.int x4), some (.int x5)], [], m) Q := by
  refine e_iload (pc' := 23) (dAt D133 13 rfl) rfl rfl ?_
  refine e_iload_n (pc' := 24) (dAt D133 14 rfl) rfl rfl ?_
  refine e_icmp_gt (t := 65) (pc' := 27) (dAt D133 15 rfl) ⟨by decide, by decide⟩ rfl (fun c => ?_) (fun c => ?_)
  · replace h := h.1 c
    refine e_aload_n (pc' := 66) (dAt D133 38 rfl) rfl rfl ?_
    refine e_getfield (pc' := 69) (dAt D133 39 rfl) rfl rfl hOx0 (hT.own hOx0 0 rfl) ?_
    refine e_iload_n (pc' := 70) (dAt D133 40 rfl) rfl rfl ?_
    refine e_bipush (pc' := 72) (v := 10) (dAt D133 41 rfl) rfl (by decide) ?_
    refine e_imul (pc' := 73) (dAt D133 42 rfl) rfl ?_
    refine e_iload_n (pc' := 74) (dAt D133 43 rfl) rfl rfl ?_
    refine e_iadd (pc' := 75) (dAt D133 44 rfl) rfl ?_
    refine e_iload (pc' := 77) (dAt D133 45 rfl) rfl rfl ?_
    obtain ⟨f1, h⟩ := h
    replace h := h _ rfl
    refine e_iastore (pc' := 78) (dAt D133 46 rfl) rfl (hT.arr hOx0 0 rfl (by decide)).1 (hT.arr hOx0 0 rfl (by decide)).2 f1 (nar_i _) ?_
    refine wtI hT (fun hT_2 => ?_)
    replace h := h _ rfl
    refine e_iinc (pc' := 81) (dAt D133 47 rfl) rfl rfl (Nat.le_of_ble_eq_true rfl) (congrArg (_ + ·) (show Int32.ofInt (1) = (1 : Int32) by decide)) rfl ?_
    refine e_goto (t := 2) (dAt D133 48 rfl) ⟨by decide, by decide⟩ ?_
    exact h
  · replace h := h.2 c
    refine e_aload_n (pc' := 28) (dAt D133 16 rfl) rfl rfl ?_
    refine e_getfield (pc' := 31) (dAt D133 17 rfl) rfl rfl hOx0 (hT.own hOx0 2 rfl) ?_
    refine e_iload_n (pc' := 32) (dAt D133 18 rfl) rfl rfl ?_
    obtain ⟨f1, h⟩ := h
    refine e_iaload (pc' := 33) (dAt D133 19 rfl) rfl (hT.arr hOx0 2 rfl (by decide)).1 (Or.inl (hT.arr hOx0 2 rfl (by decide)).2) f1 rfl ?_
    refine e_iload (pc' := 35) (dAt D133 20 rfl) rfl rfl ?_
    refine e_ishr (pc' := 36) (dAt D133 21 rfl) rfl ?_
    refine e_iconst (pc' := 37) (v := 1) (dAt D133 22 rfl) rfl (by decide) ?_
    refine e_iand (pc' := 38) (dAt D133 23 rfl) rfl ?_
    refine e_iconst (pc' := 39) (v := 1) (dAt D133 24 rfl) rfl (by decide) ?_
    refine e_icmp_ne (t := 59) (pc' := 42) (dAt D133 25 rfl) ⟨by decide, by decide⟩ rfl (fun c => ?_) (fun c => ?_)
    · replace h := h.1 c
      replace h := h _ rfl
      refine e_iinc (pc' := 62) (dAt D133 36 rfl) rfl rfl (Nat.le_of_ble_eq_true rfl) (congrArg (_ + ·) (show Int32.ofInt (1) = (1 : Int32) by decide)) rfl ?_
      refine e_goto (t := 21) (dAt D133 37 rfl) ⟨by decide, by decide⟩ ?_
      exact h
    · replace h := h.2 c
      refine e_iload (pc' := 44) (dAt D133 26 rfl) rfl rfl ?_
      refine e_aload_n (pc' := 45) (dAt D133 27 rfl) rfl rfl ?_
      refine e_aload_n (pc' := 46) (dAt D133 28 rfl) rfl rfl ?_
      refine e_getfield (pc' := 49) (dAt D133 29 rfl) rfl rfl hOx0 (hT.own hOx0 1 rfl) ?_
      refine e_iload (pc' := 51) (dAt D133 30 rfl) rfl rfl ?_
      obtain ⟨f1, h⟩ := h
      refine e_iaload (pc' := 52) (dAt D133 31 rfl) rfl (hT.arr hOx0 1 rfl (by decide)).1 (Or.inl (hT.arr hOx0 1 rfl (by decide)).2) f1 rfl ?_
      refine e_iload_n (pc' := 53) (dAt D133 32 rfl) rfl rfl ?_
      exact e_call2 h (dAt D133 33 rfl) (hi0 rfl) rfl G28 (by decide) rfl (Nat.le_of_ble_eq_true rfl) (kV hOx1 rfl rfl) rfl rfl
-- PlaceNets$Unfolding.leave.(LPlaceNets$Net;I)V, from 56
set_option maxRecDepth 20000 in
theorem bk133_56 {d b : Nat} {Q : Option Value → mMem → Prop} {m : mMem} {x0 : Nat} {x1 : Nat} {x2 : Int32} {x3 : Int32} {x4 : Int32} {x5 : Int32} {y0 : Int32} {y1 : Int32} (hT : mWT m) (hOx0 : m.1 x0 = some (.inr 7) ∧ x0 ≠ 0) (hOx1 : m.1 x1 = some (.inr 2) ∧ x1 ≠ 0)
    (h : ∀ (v_1 : Int32), v_1 = (y0 + y1) → ∀ (v_2 : Int32), v_2 = (x5 + 1) → mEs d 133 b g133 (21, [some (.ref x0), some (.ref x1), some (.int x2), some (.int x3), some (.int v_1), some (.int v_2)], [], m) Q) :
    mEs d 133 b g133 (56, [some (.ref x0), some (.ref x1), some (.int x2), some (.int x3), some (.int x4), some (.int x5)], [.int y1, .int y0], m) Q := by
  refine e_iadd (pc' := 57) (dAt D133 34 rfl) rfl ?_
  replace h := h _ rfl
  refine e_istore (pc' := 59) (dAt D133 35 rfl) rfl (Nat.le_of_ble_eq_true rfl) rfl ?_
  replace h := h _ rfl
  refine e_iinc (pc' := 62) (dAt D133 36 rfl) rfl rfl (Nat.le_of_ble_eq_true rfl) (congrArg (_ + ·) (show Int32.ofInt (1) = (1 : Int32) by decide)) rfl ?_
  refine e_goto (t := 21) (dAt D133 37 rfl) ⟨by decide, by decide⟩ ?_
  exact h
-- PlaceNets$Unfolding.isCut.(I)Z, from 0
set_option maxRecDepth 20000 in
theorem bk134_0 {d b : Nat} {Q : Option Value → mMem → Prop} {m : mMem} {x0 : Nat} {x1 : Int32} {x2 : Option Value} (hT : mWT m) (hOx0 : m.1 x0 = some (.inr 7) ∧ x0 ≠ 0)
    (h : mEv d 135 [.ref x0, .int x1, .ref (64 * x0 + 10), .int 0] m (fun r m' => mEs d 134 b g134 (10, [some (.ref x0), some (.int x1), x2], r.toList ++ [], m') Q)) :
    mEs d 134 b g134 (0, [some (.ref x0), some (.int x1), x2], [], m) Q := by
  refine e_aload_n (pc' := 1) (dAt D134 0 rfl) rfl rfl ?_
  refine e_iload_n (pc' := 2) (dAt D134 1 rfl) rfl rfl ?_
  refine e_aload_n (pc' := 3) (dAt D134 2 rfl) rfl rfl ?_
  refine e_getfield (pc' := 6) (dAt D134 3 rfl) rfl rfl hOx0 (hT.own hOx0 9 rfl) ?_
  refine e_iconst (pc' := 7) (v := 0) (dAt D134 4 rfl) rfl (by decide) ?_
  exact e_call2 h (dAt D134 5 rfl) (hi0 rfl) rfl G135 (by decide) rfl (Nat.le_of_ble_eq_true rfl) (kV hOx0 rfl rfl) rfl rfl
-- PlaceNets$Unfolding.isCut.(I)Z, from 10
set_option maxRecDepth 20000 in
theorem bk134_10 {d b : Nat} {Q : Option Value → mMem → Prop} {m : mMem} {x0 : Nat} {x1 : Int32} {x2 : Option Value} {y0 : Int32} (hT : mWT m) (hOx0 : m.1 x0 = some (.inr 7) ∧ x0 ≠ 0)
    (h : (((y0 = 0) → (mEs d 134 b g134 (17, [some (.ref x0), some (.int x1), some (.int 0)], [], m) Q)) ∧ (¬ (y0 = 0) → (Q (some (.int 1)) m)))) :
    mEs d 134 b g134 (10, [some (.ref x0), some (.int x1), x2], [.int y0], m) Q := by
  refine e_if_eq (t := 15) (pc' := 13) (dAt D134 6 rfl) ⟨by decide, by decide⟩ rfl (fun c => ?_) (fun c => ?_)
  · replace h := h.1 c
    refine e_iconst (pc' := 16) (v := 0) (dAt D134 9 rfl) rfl (by decide) ?_
    refine e_istore_n (pc' := 17) (dAt D134 10 rfl) rfl (Nat.le_of_ble_eq_true rfl) rfl ?_
    exact h
  · replace h := h.2 c
    refine e_iconst (pc' := 14) (v := 1) (dAt D134 7 rfl) rfl (by decide) ?_
    exact e_ireturn (dAt D134 8 rfl) rfl ⟨rfl, fun e => by cases e⟩ h
-- PlaceNets$Unfolding.isCut.(I)Z, from 17
set_option maxRecDepth 20000 in
theorem bk134_17 {d b : Nat} {Q : Option Value → mMem → Prop} {m : mMem} {x0 : Nat} {x1 : Int32} {x2 : Int32} (hT : mWT m) (hOx0 : m.1 x0 = some (.inr 7) ∧ x0 ≠ 0)
    (h : (((x1 ≤ x2) → (Q (some (.int 0)) m)) ∧ (¬ (x1 ≤ x2) → ((mIn x2 30 = true) ∧ (mEv d 29 [.int (m.2.2.1 (64 * x0 + 3) x2.toNatClampNeg)] m (fun r m' => mEs d 134 b g134 (31, [some (.ref x0), some (.int x1), some (.int x2)], r.toList ++ [], m') Q)))))) :
    mEs d 134 b g134 (17, [some (.ref x0), some (.int x1), some (.int x2)], [], m) Q := by
  refine e_iload_n (pc' := 18) (dAt D134 11 rfl) rfl rfl ?_
  refine e_iload_n (pc' := 19) (dAt D134 12 rfl) rfl rfl ?_
  refine e_icmp_ge (t := 67) (pc' := 22) (dAt D134 13 rfl) ⟨by decide, by decide⟩ rfl (fun c => ?_) (fun c => ?_)
  · replace h := h.1 c
    refine e_iconst (pc' := 68) (v := 0) (dAt D134 38 rfl) rfl (by decide) ?_
    exact e_ireturn (dAt D134 39 rfl) rfl ⟨rfl, fun e => by cases e⟩ h
  · replace h := h.2 c
    refine e_aload_n (pc' := 23) (dAt D134 14 rfl) rfl rfl ?_
    refine e_getfield (pc' := 26) (dAt D134 15 rfl) rfl rfl hOx0 (hT.own hOx0 2 rfl) ?_
    refine e_iload_n (pc' := 27) (dAt D134 16 rfl) rfl rfl ?_
    obtain ⟨f1, h⟩ := h
    refine e_iaload (pc' := 28) (dAt D134 17 rfl) rfl (hT.arr hOx0 2 rfl (by decide)).1 (Or.inl (hT.arr hOx0 2 rfl (by decide)).2) f1 rfl ?_
    exact e_call2 h (dAt D134 18 rfl) (hi2 rfl) rfl G29 (by decide) rfl (Nat.le_of_ble_eq_true rfl) rfl rfl rfl
-- PlaceNets$Unfolding.isCut.(I)Z, from 31
set_option maxRecDepth 20000 in
theorem bk134_31 {d b : Nat} {Q : Option Value → mMem → Prop} {m : mMem} {x0 : Nat} {x1 : Int32} {x2 : Int32} {y0 : Int32} (hT : mWT m) (hOx0 : m.1 x0 = some (.inr 7) ∧ x0 ≠ 0)
    (h : (mIn x1 30 = true) ∧ (mEv d 29 [.int (m.2.2.1 (64 * x0 + 3) x1.toNatClampNeg)] m (fun r m' => mEs d 134 b g134 (40, [some (.ref x0), some (.int x1), some (.int x2)], r.toList ++ [.int y0], m') Q))) :
    mEs d 134 b g134 (31, [some (.ref x0), some (.int x1), some (.int x2)], [.int y0], m) Q := by
  refine e_aload_n (pc' := 32) (dAt D134 19 rfl) rfl rfl ?_
  refine e_getfield (pc' := 35) (dAt D134 20 rfl) rfl rfl hOx0 (hT.own hOx0 2 rfl) ?_
  refine e_iload_n (pc' := 36) (dAt D134 21 rfl) rfl rfl ?_
  obtain ⟨f1, h⟩ := h
  refine e_iaload (pc' := 37) (dAt D134 22 rfl) rfl (hT.arr hOx0 2 rfl (by decide)).1 (Or.inl (hT.arr hOx0 2 rfl (by decide)).2) f1 rfl ?_
  exact e_call2 h (dAt D134 23 rfl) (hi2 rfl) rfl G29 (by decide) rfl (Nat.le_of_ble_eq_true rfl) rfl rfl rfl
-- PlaceNets$Unfolding.isCut.(I)Z, from 40
set_option maxRecDepth 20000 in
theorem bk134_40 {d b : Nat} {Q : Option Value → mMem → Prop} {m : mMem} {x0 : Nat} {x1 : Int32} {x2 : Int32} {y0 : Int32} {y1 : Int32} (hT : mWT m) (hOx0 : m.1 x0 = some (.inr 7) ∧ x0 ≠ 0)
    (h : (((y1 ≤ y0) → (∀ (v_1 : Int32), v_1 = (x2 + 1) → mEs d 134 b g134 (17, [some (.ref x0), some (.int x1), some (.int v_1)], [], m) Q)) ∧ (¬ (y1 ≤ y0) → (mEv d 135 [.ref x0, .int x1, .ref (64 * x0 + 1), .int (x2 * 10)] m (fun r m' => mEs d 134 b g134 (56, [some (.ref x0), some (.int x1), some (.int x2)], r.toList ++ [], m') Q))))) :
    mEs d 134 b g134 (40, [some (.ref x0), some (.int x1), some (.int x2)], [.int y1, .int y0], m) Q := by
  refine e_icmp_ge (t := 61) (pc' := 43) (dAt D134 24 rfl) ⟨by decide, by decide⟩ rfl (fun c => ?_) (fun c => ?_)
  · replace h := h.1 c
    replace h := h _ rfl
    refine e_iinc (pc' := 64) (dAt D134 36 rfl) rfl rfl (Nat.le_of_ble_eq_true rfl) (congrArg (_ + ·) (show Int32.ofInt (1) = (1 : Int32) by decide)) rfl ?_
    refine e_goto (t := 17) (dAt D134 37 rfl) ⟨by decide, by decide⟩ ?_
    exact h
  · replace h := h.2 c
    refine e_aload_n (pc' := 44) (dAt D134 25 rfl) rfl rfl ?_
    refine e_iload_n (pc' := 45) (dAt D134 26 rfl) rfl rfl ?_
    refine e_aload_n (pc' := 46) (dAt D134 27 rfl) rfl rfl ?_
    refine e_getfield (pc' := 49) (dAt D134 28 rfl) rfl rfl hOx0 (hT.own hOx0 0 rfl) ?_
    refine e_iload_n (pc' := 50) (dAt D134 29 rfl) rfl rfl ?_
    refine e_bipush (pc' := 52) (v := 10) (dAt D134 30 rfl) rfl (by decide) ?_
    refine e_imul (pc' := 53) (dAt D134 31 rfl) rfl ?_
    exact e_call2 h (dAt D134 32 rfl) (hi0 rfl) rfl G135 (by decide) rfl (Nat.le_of_ble_eq_true rfl) (kV hOx0 rfl rfl) rfl rfl
-- PlaceNets$Unfolding.isCut.(I)Z, from 56
set_option maxRecDepth 20000 in
theorem bk134_56 {d b : Nat} {Q : Option Value → mMem → Prop} {m : mMem} {x0 : Nat} {x1 : Int32} {x2 : Int32} {y0 : Int32} (hT : mWT m) (hOx0 : m.1 x0 = some (.inr 7) ∧ x0 ≠ 0)
    (h : (((y0 = 0) → (∀ (v_1 : Int32), v_1 = (x2 + 1) → mEs d 134 b g134 (17, [some (.ref x0), some (.int x1), some (.int v_1)], [], m) Q)) ∧ (¬ (y0 = 0) → (Q (some (.int 1)) m)))) :
    mEs d 134 b g134 (56, [some (.ref x0), some (.int x1), some (.int x2)], [.int y0], m) Q := by
  refine e_if_eq (t := 61) (pc' := 59) (dAt D134 33 rfl) ⟨by decide, by decide⟩ rfl (fun c => ?_) (fun c => ?_)
  · replace h := h.1 c
    replace h := h _ rfl
    refine e_iinc (pc' := 64) (dAt D134 36 rfl) rfl rfl (Nat.le_of_ble_eq_true rfl) (congrArg (_ + ·) (show Int32.ofInt (1) = (1 : Int32) by decide)) rfl ?_
    refine e_goto (t := 17) (dAt D134 37 rfl) ⟨by decide, by decide⟩ ?_
    exact h
  · replace h := h.2 c
    refine e_iconst (pc' := 60) (v := 1) (dAt D134 34 rfl) rfl (by decide) ?_
    exact e_ireturn (dAt D134 35 rfl) rfl ⟨rfl, fun e => by cases e⟩ h
-- PlaceNets$Unfolding.isLeft.(I[II)Z, from 0
set_option maxRecDepth 20000 in
theorem bk135_0 {d b : Nat} {Q : Option Value → mMem → Prop} {m : mMem} {x0 : Nat} {x1 : Int32} {x2 : Nat} {lx2 : Nat} {x3 : Int32} {x4 : Option Value} (hT : mWT m) (hOx0 : m.1 x0 = some (.inr 7) ∧ x0 ≠ 0) (hAx2 : m.1 x2 = some (.inl (.int, lx2)) ∧ x2 ≠ 0)
    (h : mEs d 135 b g135 (3, [some (.ref x0), some (.int x1), some (.ref x2), some (.int x3), some (.int 0)], [], m) Q) :
    mEs d 135 b g135 (0, [some (.ref x0), some (.int x1), some (.ref x2), some (.int x3), x4], [], m) Q := by
  refine e_iconst (pc' := 1) (v := 0) (dAt D135 0 rfl) rfl (by decide) ?_
  refine e_istore (pc' := 3) (dAt D135 1 rfl) rfl (Nat.le_of_ble_eq_true rfl) rfl ?_
  exact h
-- PlaceNets$Unfolding.isLeft.(I[II)Z, from 3
set_option maxRecDepth 20000 in
theorem bk135_3 {d b : Nat} {Q : Option Value → mMem → Prop} {m : mMem} {x0 : Nat} {x1 : Int32} {x2 : Nat} {lx2 : Nat} {x3 : Int32} {x4 : Int32} (hT : mWT m) (hOx0 : m.1 x0 = some (.inr 7) ∧ x0 ≠ 0) (hAx2 : m.1 x2 = some (.inl (.int, lx2)) ∧ x2 ≠ 0)
    (h : ((((iF m x0 17) ≤ x4) → (Q (some (.int 1)) m)) ∧ (¬ ((iF m x0 17) ≤ x4) → ((mIn ((x1 * 10) + x4) 300 = true) ∧ ((mIn (x3 + x4) lx2 = true) ∧ ((((m.2.2.1 (64 * x0 + 1) ((x1 * 10) + x4).toNatClampNeg) = (m.2.2.1 x2 (x3 + x4).toNatClampNeg)) → (∀ (v_1 : Int32), v_1 = (x4 + 1) → mEs d 135 b g135 (3, [some (.ref x0), some (.int x1), some (.ref x2), some (.int x3), some (.int v_1)], [], m) Q)) ∧ (¬ ((m.2.2.1 (64 * x0 + 1) ((x1 * 10) + x4).toNatClampNeg) = (m.2.2.1 x2 (x3 + x4).toNatClampNeg)) → (Q (some (.int 0)) m)))))))) :
    mEs d 135 b g135 (3, [some (.ref x0), some (.int x1), some (.ref x2), some (.int x3), some (.int x4)], [], m) Q := by
  refine e_iload (pc' := 5) (dAt D135 2 rfl) rfl rfl ?_
  refine e_aload_n (pc' := 6) (dAt D135 3 rfl) rfl rfl ?_
  refine e_getfield (pc' := 9) (dAt D135 4 rfl) rfl rfl hOx0 (hT.int hOx0 17 (by decide)) ?_
  refine e_icmp_ge (t := 41) (pc' := 12) (dAt D135 5 rfl) ⟨by decide, by decide⟩ rfl (fun c => ?_) (fun c => ?_)
  · replace h := h.1 c
    refine e_iconst (pc' := 42) (v := 1) (dAt D135 24 rfl) rfl (by decide) ?_
    exact e_ireturn (dAt D135 25 rfl) rfl ⟨rfl, fun e => by cases e⟩ h
  · replace h := h.2 c
    refine e_aload_n (pc' := 13) (dAt D135 6 rfl) rfl rfl ?_
    refine e_getfield (pc' := 16) (dAt D135 7 rfl) rfl rfl hOx0 (hT.own hOx0 0 rfl) ?_
    refine e_iload_n (pc' := 17) (dAt D135 8 rfl) rfl rfl ?_
    refine e_bipush (pc' := 19) (v := 10) (dAt D135 9 rfl) rfl (by decide) ?_
    refine e_imul (pc' := 20) (dAt D135 10 rfl) rfl ?_
    refine e_iload (pc' := 22) (dAt D135 11 rfl) rfl rfl ?_
    refine e_iadd (pc' := 23) (dAt D135 12 rfl) rfl ?_
    obtain ⟨f1, h⟩ := h
    refine e_iaload (pc' := 24) (dAt D135 13 rfl) rfl (hT.arr hOx0 0 rfl (by decide)).1 (Or.inl (hT.arr hOx0 0 rfl (by decide)).2) f1 rfl ?_
    refine e_aload_n (pc' := 25) (dAt D135 14 rfl) rfl rfl ?_
    refine e_iload_n (pc' := 26) (dAt D135 15 rfl) rfl rfl ?_
    refine e_iload (pc' := 28) (dAt D135 16 rfl) rfl rfl ?_
    refine e_iadd (pc' := 29) (dAt D135 17 rfl) rfl ?_
    obtain ⟨f1, h⟩ := h
    refine e_iaload (pc' := 30) (dAt D135 18 rfl) rfl hAx2.1 (Or.inl hAx2.2) f1 rfl ?_
    refine e_icmp_eq (t := 35) (pc' := 33) (dAt D135 19 rfl) ⟨by decide, by decide⟩ rfl (fun c => ?_) (fun c => ?_)
    · replace h := h.1 c
      replace h := h _ rfl
      refine e_iinc (pc' := 38) (dAt D135 22 rfl) rfl rfl (Nat.le_of_ble_eq_true rfl) (congrArg (_ + ·) (show Int32.ofInt (1) = (1 : Int32) by decide)) rfl ?_
      refine e_goto (t := 3) (dAt D135 23 rfl) ⟨by decide, by decide⟩ ?_
      exact h
    · replace h := h.2 c
      refine e_iconst (pc' := 34) (v := 0) (dAt D135 20 rfl) rfl (by decide) ?_
      exact e_ireturn (dAt D135 21 rfl) rfl ⟨rfl, fun e => by cases e⟩ h
-- PlaceNets$Unfolding.gatherBeside.(I)V, from 0
set_option maxRecDepth 20000 in
theorem bk136_0 {d b : Nat} {Q : Option Value → mMem → Prop} {m : mMem} {x0 : Nat} {x1 : Int32} {x2 : Option Value} {x3 : Option Value} (hT : mWT m) (hOx0 : m.1 x0 = some (.inr 7) ∧ x0 ≠ 0)
    (h : mEv d 11 [.ref (64 * x0 + 13), .int ((-1))] m (fun r m' => mEs d 136 b g136 (8, [some (.ref x0), some (.int x1), x2, x3], r.toList ++ [], m') Q)) :
    mEs d 136 b g136 (0, [some (.ref x0), some (.int x1), x2, x3], [], m) Q := by
  refine e_aload_n (pc' := 1) (dAt D136 0 rfl) rfl rfl ?_
  refine e_getfield (pc' := 4) (dAt D136 1 rfl) rfl rfl hOx0 (hT.own hOx0 12 rfl) ?_
  refine e_iconst (pc' := 5) (v := (-1)) (dAt D136 2 rfl) rfl (by decide) ?_
  exact e_call2 h (dAt D136 3 rfl) (hi2 rfl) rfl G11 (by decide) rfl (Nat.le_of_ble_eq_true rfl) rfl rfl rfl
-- PlaceNets$Unfolding.gatherBeside.(I)V, from 8
set_option maxRecDepth 20000 in
theorem bk136_8 {d b : Nat} {Q : Option Value → mMem → Prop} {m : mMem} {x0 : Nat} {x1 : Int32} {x2 : Option Value} {x3 : Option Value} (hT : mWT m) (hOx0 : m.1 x0 = some (.inr 7) ∧ x0 ≠ 0)
    (h : mEs d 136 b g136 (10, [some (.ref x0), some (.int x1), some (.int 0), x3], [], m) Q) :
    mEs d 136 b g136 (8, [some (.ref x0), some (.int x1), x2, x3], [], m) Q := by
  refine e_iconst (pc' := 9) (v := 0) (dAt D136 4 rfl) rfl (by decide) ?_
  refine e_istore_n (pc' := 10) (dAt D136 5 rfl) rfl (Nat.le_of_ble_eq_true rfl) rfl ?_
  exact h
-- PlaceNets$Unfolding.gatherBeside.(I)V, from 10
set_option maxRecDepth 20000 in
theorem bk136_10 {d b : Nat} {Q : Option Value → mMem → Prop} {m : mMem} {x0 : Nat} {x1 : Int32} {x2 : Int32} {x3 : Option Value} (hT : mWT m) (hOx0 : m.1 x0 = some (.inr 7) ∧ x0 ≠ 0)
    (h : (((x1 ≤ x2) → (Q none m)) ∧ (¬ (x1 ≤ x2) → (mEs d 136 b g136 (17, [some (.ref x0), some (.int x1), some (.int x2), some (.int 0)], [], m) Q)))) :
    mEs d 136 b g136 (10, [some (.ref x0), some (.int x1), some (.int x2), x3], [], m) Q := by
  refine e_iload_n (pc' := 11) (dAt D136 6 rfl) rfl rfl ?_
  refine e_iload_n (pc' := 12) (dAt D136 7 rfl) rfl rfl ?_
  refine e_icmp_ge (t := 58) (pc' := 15) (dAt D136 8 rfl) ⟨by decide, by decide⟩ rfl (fun c => ?_) (fun c => ?_)
  · replace h := h.1 c
    exact e_return (dAt D136 36 rfl) rfl h
  · replace h := h.2 c
    refine e_iconst (pc' := 16) (v := 0) (dAt D136 9 rfl) rfl (by decide) ?_
    refine e_istore_n (pc' := 17) (dAt D136 10 rfl) rfl (Nat.le_of_ble_eq_true rfl) rfl ?_
    exact h
-- PlaceNets$Unfolding.gatherBeside.(I)V, from 17
set_option maxRecDepth 20000 in
theorem bk136_17 {d b : Nat} {Q : Option Value → mMem → Prop} {m : mMem} {x0 : Nat} {x1 : Int32} {x2 : Int32} {x3 : Int32} (hT : mWT m) (hOx0 : m.1 x0 = some (.inr 7) ∧ x0 ≠ 0)
    (h : (((3 ≤ x3) → (∀ (v_1 : Int32), v_1 = (x2 + 1) → mEs d 136 b g136 (10, [some (.ref x0), some (.int x1), some (.int v_1), some (.int x3)], [], m) Q)) ∧ (¬ (3 ≤ x3) → ((mIn x3 3 = true) ∧ ((mIn x2 3 = true) ∧ ((mIn (((m.2.2.1 (64 * x0 + 12) x2.toNatClampNeg) * 3) + x3) 240 = true) ∧ ((mIn x3 3 = true) ∧ (∀ (m_2 : mMem), m_2 = (mSetI m (64 * x0 + 13) (upd (m.2.2.1 (64 * x0 + 13)) x3.toNatClampNeg ((m.2.2.1 (64 * x0 + 13) x3.toNatClampNeg) &&& (m.2.2.1 (64 * x0 + 9) (((m.2.2.1 (64 * x0 + 12) x2.toNatClampNeg) * 3) + x3).toNatClampNeg)))) → ∀ (v_4 : Int32), v_4 = (x3 + 1) → mEs d 136 b g136 (17, [some (.ref x0), some (.int x1), some (.int x2), some (.int v_4)], [], m_2) Q)))))))) :
    mEs d 136 b g136 (17, [some (.ref x0), some (.int x1), some (.int x2), some (.int x3)], [], m) Q := by
  refine e_iload_n (pc' := 18) (dAt D136 11 rfl) rfl rfl ?_
  refine e_iconst (pc' := 19) (v := 3) (dAt D136 12 rfl) rfl (by decide) ?_
  refine e_icmp_ge (t := 52) (pc' := 22) (dAt D136 13 rfl) ⟨by decide, by decide⟩ rfl (fun c => ?_) (fun c => ?_)
  · replace h := h.1 c
    replace h := h _ rfl
    refine e_iinc (pc' := 55) (dAt D136 34 rfl) rfl rfl (Nat.le_of_ble_eq_true rfl) (congrArg (_ + ·) (show Int32.ofInt (1) = (1 : Int32) by decide)) rfl ?_
    refine e_goto (t := 10) (dAt D136 35 rfl) ⟨by decide, by decide⟩ ?_
    exact h
  · replace h := h.2 c
    refine e_aload_n (pc' := 23) (dAt D136 14 rfl) rfl rfl ?_
    refine e_getfield (pc' := 26) (dAt D136 15 rfl) rfl rfl hOx0 (hT.own hOx0 12 rfl) ?_
    refine e_iload_n (pc' := 27) (dAt D136 16 rfl) rfl rfl ?_
    refine e_dup2 (pc' := 28) (dAt D136 17 rfl) rfl ⟨rfl, rfl⟩ ?_
    obtain ⟨f1, h⟩ := h
    refine e_iaload (pc' := 29) (dAt D136 18 rfl) rfl (hT.arr hOx0 12 rfl (by decide)).1 (Or.inl (hT.arr hOx0 12 rfl (by decide)).2) f1 rfl ?_
    refine e_aload_n (pc' := 30) (dAt D136 19 rfl) rfl rfl ?_
    refine e_getfield (pc' := 33) (dAt D136 20 rfl) rfl rfl hOx0 (hT.own hOx0 8 rfl) ?_
    refine e_aload_n (pc' := 34) (dAt D136 21 rfl) rfl rfl ?_
    refine e_getfield (pc' := 37) (dAt D136 22 rfl) rfl rfl hOx0 (hT.own hOx0 11 rfl) ?_
    refine e_iload_n (pc' := 38) (dAt D136 23 rfl) rfl rfl ?_
    obtain ⟨f1, h⟩ := h
    refine e_iaload (pc' := 39) (dAt D136 24 rfl) rfl (hT.arr hOx0 11 rfl (by decide)).1 (Or.inl (hT.arr hOx0 11 rfl (by decide)).2) f1 rfl ?_
    refine e_iconst (pc' := 40) (v := 3) (dAt D136 25 rfl) rfl (by decide) ?_
    refine e_imul (pc' := 41) (dAt D136 26 rfl) rfl ?_
    refine e_iload_n (pc' := 42) (dAt D136 27 rfl) rfl rfl ?_
    refine e_iadd (pc' := 43) (dAt D136 28 rfl) rfl ?_
    obtain ⟨f1, h⟩ := h
    refine e_iaload (pc' := 44) (dAt D136 29 rfl) rfl (hT.arr hOx0 8 rfl (by decide)).1 (Or.inl (hT.arr hOx0 8 rfl (by decide)).2) f1 rfl ?_
    refine e_iand (pc' := 45) (dAt D136 30 rfl) rfl ?_
    obtain ⟨f1, h⟩ := h
    replace h := h _ rfl
    refine e_iastore (pc' := 46) (dAt D136 31 rfl) rfl (hT.arr hOx0 12 rfl (by decide)).1 (hT.arr hOx0 12 rfl (by decide)).2 f1 (nar_i _) ?_
    refine wtI hT (fun hT_3 => ?_)
    replace h := h _ rfl
    refine e_iinc (pc' := 49) (dAt D136 32 rfl) rfl rfl (Nat.le_of_ble_eq_true rfl) (congrArg (_ + ·) (show Int32.ofInt (1) = (1 : Int32) by decide)) rfl ?_
    refine e_goto (t := 17) (dAt D136 33 rfl) ⟨by decide, by decide⟩ ?_
    exact h
-- PlaceNets$Unfolding.pastOf.(I)I, from 0
set_option maxRecDepth 20000 in
theorem bk137_0 {d b : Nat} {Q : Option Value → mMem → Prop} {m : mMem} {x0 : Nat} {x1 : Int32} (hT : mWT m) (hOx0 : m.1 x0 = some (.inr 7) ∧ x0 ≠ 0)
    (h : (mIn x1 80 = true) ∧ (((¬ (m.2.2.1 (64 * x0 + 8) x1.toNatClampNeg) = ((-1))) → ((mIn x1 80 = true) ∧ ((mIn (m.2.2.1 (64 * x0 + 8) x1.toNatClampNeg) 30 = true) ∧ (Q (some (.int (m.2.2.1 (64 * x0 + 3) (m.2.2.1 (64 * x0 + 8) x1.toNatClampNeg).toNatClampNeg))) m)))) ∧ (¬ (¬ (m.2.2.1 (64 * x0 + 8) x1.toNatClampNeg) = ((-1))) → (Q (some (.int 0)) m)))) :
    mEs d 137 b g137 (0, [some (.ref x0), some (.int x1)], [], m) Q := by
  refine e_aload_n (pc' := 1) (dAt D137 0 rfl) rfl rfl ?_
  refine e_getfield (pc' := 4) (dAt D137 1 rfl) rfl rfl hOx0 (hT.own hOx0 7 rfl) ?_
  refine e_iload_n (pc' := 5) (dAt D137 2 rfl) rfl rfl ?_
  obtain ⟨f1, h⟩ := h
  refine e_iaload (pc' := 6) (dAt D137 3 rfl) rfl (hT.arr hOx0 7 rfl (by decide)).1 (Or.inl (hT.arr hOx0 7 rfl (by decide)).2) f1 rfl ?_
  refine e_iconst (pc' := 7) (v := (-1)) (dAt D137 4 rfl) rfl (by decide) ?_
  refine e_icmp_ne (t := 14) (pc' := 10) (dAt D137 5 rfl) ⟨by decide, by decide⟩ rfl (fun c => ?_) (fun c => ?_)
  · replace h := h.1 c
    refine e_aload_n (pc' := 15) (dAt D137 8 rfl) rfl rfl ?_
    refine e_getfield (pc' := 18) (dAt D137 9 rfl) rfl rfl hOx0 (hT.own hOx0 2 rfl) ?_
    refine e_aload_n (pc' := 19) (dAt D137 10 rfl) rfl rfl ?_
    refine e_getfield (pc' := 22) (dAt D137 11 rfl) rfl rfl hOx0 (hT.own hOx0 7 rfl) ?_
    refine e_iload_n (pc' := 23) (dAt D137 12 rfl) rfl rfl ?_
    obtain ⟨f1, h⟩ := h
    refine e_iaload (pc' := 24) (dAt D137 13 rfl) rfl (hT.arr hOx0 7 rfl (by decide)).1 (Or.inl (hT.arr hOx0 7 rfl (by decide)).2) f1 rfl ?_
    obtain ⟨f1, h⟩ := h
    refine e_iaload (pc' := 25) (dAt D137 14 rfl) rfl (hT.arr hOx0 2 rfl (by decide)).1 (Or.inl (hT.arr hOx0 2 rfl (by decide)).2) f1 rfl ?_
    exact e_ireturn (dAt D137 15 rfl) rfl ⟨rfl, fun e => by cases e⟩ h
  · replace h := h.2 c
    refine e_iconst (pc' := 11) (v := 0) (dAt D137 6 rfl) rfl (by decide) ?_
    refine e_goto (t := 25) (dAt D137 7 rfl) ⟨by decide, by decide⟩ ?_
    exact e_ireturn (dAt D137 15 rfl) rfl ⟨rfl, fun e => by cases e⟩ h
-- PlaceNets$Unfolding.isFit.(II)Z, from 0
set_option maxRecDepth 20000 in
theorem bk138_0 {d b : Nat} {Q : Option Value → mMem → Prop} {m : mMem} {x0 : Nat} {x1 : Int32} {x2 : Int32} {x3 : Option Value} (hT : mWT m) (hOx0 : m.1 x0 = some (.inr 7) ∧ x0 ≠ 0)
    (h : (mIn x1 80 = true) ∧ ((mIn (m.2.2.1 (64 * x0 + 7) x1.toNatClampNeg) 10 = true) ∧ ((((m.2.2.1 (64 * x0 + 11) (m.2.2.1 (64 * x0 + 7) x1.toNatClampNeg).toNatClampNeg) = 0) → (Q (some (.int 0)) m)) ∧ (¬ ((m.2.2.1 (64 * x0 + 11) (m.2.2.1 (64 * x0 + 7) x1.toNatClampNeg).toNatClampNeg) = 0) → ((mIn x1 80 = true) ∧ ((((m.2.2.1 (64 * x0 + 8) x1.toNatClampNeg) = ((-1))) → (mEs d 138 b g138 (42, [some (.ref x0), some (.int x1), some (.int x2), some (.int 0)], [], m) Q)) ∧ (¬ ((m.2.2.1 (64 * x0 + 8) x1.toNatClampNeg) = ((-1))) → ((mIn x1 80 = true) ∧ ((mIn (m.2.2.1 (64 * x0 + 8) x1.toNatClampNeg) 30 = true) ∧ ((((m.2.2.1 (64 * x0 + 4) (m.2.2.1 (64 * x0 + 8) x1.toNatClampNeg).toNatClampNeg) = 0) → (mEs d 138 b g138 (42, [some (.ref x0), some (.int x1), some (.int x2), some (.int 0)], [], m) Q)) ∧ (¬ ((m.2.2.1 (64 * x0 + 4) (m.2.2.1 (64 * x0 + 8) x1.toNatClampNeg).toNatClampNeg) = 0) → (Q (some (.int 0)) m)))))))))))) :
    mEs d 138 b g138 (0, [some (.ref x0), some (.int x1), some (.int x2), x3], [], m) Q := by
  refine e_aload_n (pc' := 1) (dAt D138 0 rfl) rfl rfl ?_
  refine e_getfield (pc' := 4) (dAt D138 1 rfl) rfl rfl hOx0 (hT.own hOx0 10 rfl) ?_
  refine e_aload_n (pc' := 5) (dAt D138 2 rfl) rfl rfl ?_
  refine e_getfield (pc' := 8) (dAt D138 3 rfl) rfl rfl hOx0 (hT.own hOx0 6 rfl) ?_
  refine e_iload_n (pc' := 9) (dAt D138 4 rfl) rfl rfl ?_
  obtain ⟨f1, h⟩ := h
  refine e_iaload (pc' := 10) (dAt D138 5 rfl) rfl (hT.arr hOx0 6 rfl (by decide)).1 (Or.inl (hT.arr hOx0 6 rfl (by decide)).2) f1 rfl ?_
  obtain ⟨f1, h⟩ := h
  refine e_iaload (pc' := 11) (dAt D138 6 rfl) rfl (hT.arr hOx0 10 rfl (by decide)).1 (Or.inl (hT.arr hOx0 10 rfl (by decide)).2) f1 rfl ?_
  refine e_if_eq (t := 38) (pc' := 14) (dAt D138 7 rfl) ⟨by decide, by decide⟩ rfl (fun c => ?_) (fun c => ?_)
  · replace h := h.1 c
    refine e_iconst (pc' := 39) (v := 0) (dAt D138 22 rfl) rfl (by decide) ?_
    exact e_ireturn (dAt D138 23 rfl) rfl ⟨rfl, fun e => by cases e⟩ h
  · replace h := h.2 c
    refine e_aload_n (pc' := 15) (dAt D138 8 rfl) rfl rfl ?_
    refine e_getfield (pc' := 18) (dAt D138 9 rfl) rfl rfl hOx0 (hT.own hOx0 7 rfl) ?_
    refine e_iload_n (pc' := 19) (dAt D138 10 rfl) rfl rfl ?_
    obtain ⟨f1, h⟩ := h
    refine e_iaload (pc' := 20) (dAt D138 11 rfl) rfl (hT.arr hOx0 7 rfl (by decide)).1 (Or.inl (hT.arr hOx0 7 rfl (by decide)).2) f1 rfl ?_
    refine e_iconst (pc' := 21) (v := (-1)) (dAt D138 12 rfl) rfl (by decide) ?_
    refine e_icmp_eq (t := 40) (pc' := 24) (dAt D138 13 rfl) ⟨by decide, by decide⟩ rfl (fun c => ?_) (fun c => ?_)
    · replace h := h.1 c
      refine e_iconst (pc' := 41) (v := 0) (dAt D138 24 rfl) rfl (by decide) ?_
      refine e_istore_n (pc' := 42) (dAt D138 25 rfl) rfl (Nat.le_of_ble_eq_true rfl) rfl ?_
      exact h
    · replace h := h.2 c
      refine e_aload_n (pc' := 25) (dAt D138 14 rfl) rfl rfl ?_
      refine e_getfield (pc' := 28) (dAt D138 15 rfl) rfl rfl hOx0 (hT.own hOx0 3 rfl) ?_
      refine e_aload_n (pc' := 29) (dAt D138 16 rfl) rfl rfl ?_
      refine e_getfield (pc' := 32) (dAt D138 17 rfl) rfl rfl hOx0 (hT.own hOx0 7 rfl) ?_
      refine e_iload_n (pc' := 33) (dAt D138 18 rfl) rfl rfl ?_
      obtain ⟨f1, h⟩ := h
      refine e_iaload (pc' := 34) (dAt D138 19 rfl) rfl (hT.arr hOx0 7 rfl (by decide)).1 (Or.inl (hT.arr hOx0 7 rfl (by decide)).2) f1 rfl ?_
      obtain ⟨f1, h⟩ := h
      refine e_zaload (pc' := 35) (dAt D138 20 rfl) rfl (hT.arr hOx0 3 rfl (by decide)).1 (Or.inl (hT.arr hOx0 3 rfl (by decide)).2) f1 rfl ?_
      refine e_if_eq (t := 40) (pc' := 38) (dAt D138 21 rfl) ⟨by decide, by decide⟩ rfl (fun c => ?_) (fun c => ?_)
      · replace h := h.1 c
        refine e_iconst (pc' := 41) (v := 0) (dAt D138 24 rfl) rfl (by decide) ?_
        refine e_istore_n (pc' := 42) (dAt D138 25 rfl) rfl (Nat.le_of_ble_eq_true rfl) rfl ?_
        exact h
      · replace h := h.2 c
        refine e_iconst (pc' := 39) (v := 0) (dAt D138 22 rfl) rfl (by decide) ?_
        exact e_ireturn (dAt D138 23 rfl) rfl ⟨rfl, fun e => by cases e⟩ h
-- PlaceNets$Unfolding.isFit.(II)Z, from 42
set_option maxRecDepth 20000 in
theorem bk138_42 {d b : Nat} {Q : Option Value → mMem → Prop} {m : mMem} {x0 : Nat} {x1 : Int32} {x2 : Int32} {x3 : Int32} (hT : mWT m) (hOx0 : m.1 x0 = some (.inr 7) ∧ x0 ≠ 0)
    (h : (((x2 ≤ x3) → (Q (some (.int 1)) m)) ∧ (¬ (x2 ≤ x3) → ((mIn x3 3 = true) ∧ (mEv d 139 [.ref x0, .int (m.2.2.1 (64 * x0 + 12) x3.toNatClampNeg), .int x1] m (fun r m' => mEs d 138 b g138 (58, [some (.ref x0), some (.int x1), some (.int x2), some (.int x3)], r.toList ++ [], m') Q)))))) :
    mEs d 138 b g138 (42, [some (.ref x0), some (.int x1), some (.int x2), some (.int x3)], [], m) Q := by
  refine e_iload_n (pc' := 43) (dAt D138 26 rfl) rfl rfl ?_
  refine e_iload_n (pc' := 44) (dAt D138 27 rfl) rfl rfl ?_
  refine e_icmp_ge (t := 69) (pc' := 47) (dAt D138 28 rfl) ⟨by decide, by decide⟩ rfl (fun c => ?_) (fun c => ?_)
  · replace h := h.1 c
    refine e_iconst (pc' := 70) (v := 1) (dAt D138 41 rfl) rfl (by decide) ?_
    exact e_ireturn (dAt D138 42 rfl) rfl ⟨rfl, fun e => by cases e⟩ h
  · replace h := h.2 c
    refine e_aload_n (pc' := 48) (dAt D138 29 rfl) rfl rfl ?_
    refine e_aload_n (pc' := 49) (dAt D138 30 rfl) rfl rfl ?_
    refine e_getfield (pc' := 52) (dAt D138 31 rfl) rfl rfl hOx0 (hT.own hOx0 11 rfl) ?_
    refine e_iload_n (pc' := 53) (dAt D138 32 rfl) rfl rfl ?_
    obtain ⟨f1, h⟩ := h
    refine e_iaload (pc' := 54) (dAt D138 33 rfl) rfl (hT.arr hOx0 11 rfl (by decide)).1 (Or.inl (hT.arr hOx0 11 rfl (by decide)).2) f1 rfl ?_
    refine e_iload_n (pc' := 55) (dAt D138 34 rfl) rfl rfl ?_
    exact e_call2 h (dAt D138 35 rfl) (hi0 rfl) rfl G139 (by decide) rfl (Nat.le_of_ble_eq_true rfl) (kV hOx0 rfl rfl) rfl rfl
-- PlaceNets$Unfolding.isFit.(II)Z, from 58
set_option maxRecDepth 20000 in
theorem bk138_58 {d b : Nat} {Q : Option Value → mMem → Prop} {m : mMem} {x0 : Nat} {x1 : Int32} {x2 : Int32} {x3 : Int32} {y0 : Int32} (hT : mWT m) (hOx0 : m.1 x0 = some (.inr 7) ∧ x0 ≠ 0)
    (h : (((¬ y0 = 0) → (∀ (v_1 : Int32), v_1 = (x3 + 1) → mEs d 138 b g138 (42, [some (.ref x0), some (.int x1), some (.int x2), some (.int v_1)], [], m) Q)) ∧ (¬ (¬ y0 = 0) → (Q (some (.int 0)) m)))) :
    mEs d 138 b g138 (58, [some (.ref x0), some (.int x1), some (.int x2), some (.int x3)], [.int y0], m) Q := by
  refine e_if_ne (t := 63) (pc' := 61) (dAt D138 36 rfl) ⟨by decide, by decide⟩ rfl (fun c => ?_) (fun c => ?_)
  · replace h := h.1 c
    replace h := h _ rfl
    refine e_iinc (pc' := 66) (dAt D138 39 rfl) rfl rfl (Nat.le_of_ble_eq_true rfl) (congrArg (_ + ·) (show Int32.ofInt (1) = (1 : Int32) by decide)) rfl ?_
    refine e_goto (t := 42) (dAt D138 40 rfl) ⟨by decide, by decide⟩ ?_
    exact h
  · replace h := h.2 c
    refine e_iconst (pc' := 62) (v := 0) (dAt D138 37 rfl) rfl (by decide) ?_
    exact e_ireturn (dAt D138 38 rfl) rfl ⟨rfl, fun e => by cases e⟩ h
-- PlaceNets$Unfolding.areTogether.(II)Z, from 0
set_option maxRecDepth 20000 in
theorem bk139_0 {d b : Nat} {Q : Option Value → mMem → Prop} {m : mMem} {x0 : Nat} {x1 : Int32} {x2 : Int32} (hT : mWT m) (hOx0 : m.1 x0 = some (.inr 7) ∧ x0 ≠ 0)
    (h : (mIn ((x1 * 3) + (x2 >>> ((5 : Int32) &&& 31))) 240 = true) ∧ (((¬ ((((m.2.2.1 (64 * x0 + 9) ((x1 * 3) + (x2 >>> ((5 : Int32) &&& 31))).toNatClampNeg).toUInt32 >>> ((x2 &&& 31).toUInt32 &&& Int32.toUInt32 31)).toInt32) &&& 1) = 1) → (Q (some (.int 0)) m)) ∧ (¬ (¬ ((((m.2.2.1 (64 * x0 + 9) ((x1 * 3) + (x2 >>> ((5 : Int32) &&& 31))).toNatClampNeg).toUInt32 >>> ((x2 &&& 31).toUInt32 &&& Int32.toUInt32 31)).toInt32) &&& 1) = 1) → (Q (some (.int 1)) m)))) :
    mEs d 139 b g139 (0, [some (.ref x0), some (.int x1), some (.int x2)], [], m) Q := by
  refine e_aload_n (pc' := 1) (dAt D139 0 rfl) rfl rfl ?_
  refine e_getfield (pc' := 4) (dAt D139 1 rfl) rfl rfl hOx0 (hT.own hOx0 8 rfl) ?_
  refine e_iload_n (pc' := 5) (dAt D139 2 rfl) rfl rfl ?_
  refine e_iconst (pc' := 6) (v := 3) (dAt D139 3 rfl) rfl (by decide) ?_
  refine e_imul (pc' := 7) (dAt D139 4 rfl) rfl ?_
  refine e_iload_n (pc' := 8) (dAt D139 5 rfl) rfl rfl ?_
  refine e_iconst (pc' := 9) (v := 5) (dAt D139 6 rfl) rfl (by decide) ?_
  refine e_ishr (pc' := 10) (dAt D139 7 rfl) rfl ?_
  refine e_iadd (pc' := 11) (dAt D139 8 rfl) rfl ?_
  obtain ⟨f1, h⟩ := h
  refine e_iaload (pc' := 12) (dAt D139 9 rfl) rfl (hT.arr hOx0 8 rfl (by decide)).1 (Or.inl (hT.arr hOx0 8 rfl (by decide)).2) f1 rfl ?_
  refine e_iload_n (pc' := 13) (dAt D139 10 rfl) rfl rfl ?_
  refine e_bipush (pc' := 15) (v := 31) (dAt D139 11 rfl) rfl (by decide) ?_
  refine e_iand (pc' := 16) (dAt D139 12 rfl) rfl ?_
  refine e_iushr (pc' := 17) (dAt D139 13 rfl) rfl ?_
  refine e_iconst (pc' := 18) (v := 1) (dAt D139 14 rfl) rfl (by decide) ?_
  refine e_iand (pc' := 19) (dAt D139 15 rfl) rfl ?_
  refine e_iconst (pc' := 20) (v := 1) (dAt D139 16 rfl) rfl (by decide) ?_
  refine e_icmp_ne (t := 27) (pc' := 23) (dAt D139 17 rfl) ⟨by decide, by decide⟩ rfl (fun c => ?_) (fun c => ?_)
  · replace h := h.1 c
    refine e_iconst (pc' := 28) (v := 0) (dAt D139 20 rfl) rfl (by decide) ?_
    exact e_ireturn (dAt D139 21 rfl) rfl ⟨rfl, fun e => by cases e⟩ h
  · replace h := h.2 c
    refine e_iconst (pc' := 24) (v := 1) (dAt D139 18 rfl) rfl (by decide) ?_
    refine e_goto (t := 28) (dAt D139 19 rfl) ⟨by decide, by decide⟩ ?_
    exact e_ireturn (dAt D139 21 rfl) rfl ⟨rfl, fun e => by cases e⟩ h
-- PlaceNets$Unfolding.tellEvent.(II)I, from 0
set_option maxRecDepth 20000 in
theorem bk140_0 {d b : Nat} {Q : Option Value → mMem → Prop} {m : mMem} {x0 : Nat} {x1 : Int32} {x2 : Int32} (hT : mWT m) (hOx0 : m.1 x0 = some (.inr 7) ∧ x0 ≠ 0)
    (h : (((x1 < 0) → (Q (some (.int ((-1)))) m)) ∧ (¬ (x1 < 0) → ((((iF m x0 1) ≤ x1) → (Q (some (.int ((-1)))) m)) ∧ (¬ ((iF m x0 1) ≤ x1) → (((0 ≤ x2) → ((x2 = 0 → ((mIn x1 30 = true) ∧ (Q (some (.int (m.2.2.1 (64 * x0 + 2) x1.toNatClampNeg))) m))) ∧ (¬ x2 = 0 → ((x2 = 1 → ((mIn x1 30 = true) ∧ (mEv d 29 [.int (m.2.2.1 (64 * x0 + 3) x1.toNatClampNeg)] m (fun r m' => mEs d 140 b g140 (60, [some (.ref x0), some (.int x1), some (.int x2)], r.toList ++ [], m') Q)))) ∧ (¬ x2 = 1 → ((x2 = 2 → ((mIn x1 30 = true) ∧ ((((m.2.2.1 (64 * x0 + 4) x1.toNatClampNeg) = 0) → (Q (some (.int 0)) m)) ∧ (¬ ((m.2.2.1 (64 * x0 + 4) x1.toNatClampNeg) = 0) → (Q (some (.int 1)) m))))) ∧ (¬ x2 = 2 → ((mIn x1 30 = true) ∧ ((((m.2.2.1 (64 * x0 + 6) x1.toNatClampNeg) ≤ (x2 - 3)) → (Q (some (.int ((-3)))) m)) ∧ (¬ ((m.2.2.1 (64 * x0 + 6) x1.toNatClampNeg) ≤ (x2 - 3)) → ((mIn (((x1 * 3) + x2) - 3) 90 = true) ∧ (Q (some (.int (m.2.2.1 (64 * x0 + 5) (((x1 * 3) + x2) - 3).toNatClampNeg))) m)))))))))))) ∧ (¬ (0 ≤ x2) → (Q (some (.int ((-1)))) m)))))))) :
    mEs d 140 b g140 (0, [some (.ref x0), some (.int x1), some (.int x2)], [], m) Q := by
  refine e_iload_n (pc' := 1) (dAt D140 0 rfl) rfl rfl ?_
  refine e_if_lt (t := 16) (pc' := 4) (dAt D140 1 rfl) ⟨by decide, by decide⟩ rfl (fun c => ?_) (fun c => ?_)
  · replace h := h.1 c
    refine e_iconst (pc' := 17) (v := (-1)) (dAt D140 8 rfl) rfl (by decide) ?_
    exact e_ireturn (dAt D140 9 rfl) rfl ⟨rfl, fun e => by cases e⟩ h
  · replace h := h.2 c
    refine e_iload_n (pc' := 5) (dAt D140 2 rfl) rfl rfl ?_
    refine e_aload_n (pc' := 6) (dAt D140 3 rfl) rfl rfl ?_
    refine e_getfield (pc' := 9) (dAt D140 4 rfl) rfl rfl hOx0 (hT.int hOx0 1 (by decide)) ?_
    refine e_icmp_ge (t := 16) (pc' := 12) (dAt D140 5 rfl) ⟨by decide, by decide⟩ rfl (fun c => ?_) (fun c => ?_)
    · replace h := h.1 c
      refine e_iconst (pc' := 17) (v := (-1)) (dAt D140 8 rfl) rfl (by decide) ?_
      exact e_ireturn (dAt D140 9 rfl) rfl ⟨rfl, fun e => by cases e⟩ h
    · replace h := h.2 c
      refine e_iload_n (pc' := 13) (dAt D140 6 rfl) rfl rfl ?_
      refine e_if_ge (t := 18) (pc' := 16) (dAt D140 7 rfl) ⟨by decide, by decide⟩ rfl (fun c => ?_) (fun c => ?_)
      · replace h := h.1 c
        refine e_iload_n (pc' := 19) (dAt D140 10 rfl) rfl rfl ?_
        refine vc_if h (fun c0 h => ?_) (fun c0 h => ?_)
        · refine e_tableswitch (off := 25) (t := 44) (dAt D140 11 rfl) (by rw [c0]; rfl) ⟨by decide, by decide⟩ ?_
          refine e_aload_n (pc' := 45) (dAt D140 12 rfl) rfl rfl ?_
          refine e_getfield (pc' := 48) (dAt D140 13 rfl) rfl rfl hOx0 (hT.own hOx0 1 rfl) ?_
          refine e_iload_n (pc' := 49) (dAt D140 14 rfl) rfl rfl ?_
          obtain ⟨f1, h⟩ := h
          refine e_iaload (pc' := 50) (dAt D140 15 rfl) rfl (hT.arr hOx0 1 rfl (by decide)).1 (Or.inl (hT.arr hOx0 1 rfl (by decide)).2) f1 rfl ?_
          exact e_ireturn (dAt D140 16 rfl) rfl ⟨rfl, fun e => by cases e⟩ h
        · skip
          refine vc_if h (fun c1 h => ?_) (fun c1 h => ?_)
          · refine e_tableswitch (off := 32) (t := 51) (dAt D140 11 rfl) (by rw [c1]; rfl) ⟨by decide, by decide⟩ ?_
            refine e_aload_n (pc' := 52) (dAt D140 17 rfl) rfl rfl ?_
            refine e_getfield (pc' := 55) (dAt D140 18 rfl) rfl rfl hOx0 (hT.own hOx0 2 rfl) ?_
            refine e_iload_n (pc' := 56) (dAt D140 19 rfl) rfl rfl ?_
            obtain ⟨f1, h⟩ := h
            refine e_iaload (pc' := 57) (dAt D140 20 rfl) rfl (hT.arr hOx0 2 rfl (by decide)).1 (Or.inl (hT.arr hOx0 2 rfl (by decide)).2) f1 rfl ?_
            exact e_call2 h (dAt D140 21 rfl) (hi2 rfl) rfl G29 (by decide) rfl (Nat.le_of_ble_eq_true rfl) rfl rfl rfl
          · skip
            refine vc_if h (fun c2 h => ?_) (fun c2 h => ?_)
            · refine e_tableswitch (off := 42) (t := 61) (dAt D140 11 rfl) (by rw [c2]; rfl) ⟨by decide, by decide⟩ ?_
              refine e_aload_n (pc' := 62) (dAt D140 23 rfl) rfl rfl ?_
              refine e_getfield (pc' := 65) (dAt D140 24 rfl) rfl rfl hOx0 (hT.own hOx0 3 rfl) ?_
              refine e_iload_n (pc' := 66) (dAt D140 25 rfl) rfl rfl ?_
              obtain ⟨f1, h⟩ := h
              refine e_zaload (pc' := 67) (dAt D140 26 rfl) rfl (hT.arr hOx0 3 rfl (by decide)).1 (Or.inl (hT.arr hOx0 3 rfl (by decide)).2) f1 rfl ?_
              refine e_if_eq (t := 74) (pc' := 70) (dAt D140 27 rfl) ⟨by decide, by decide⟩ rfl (fun c => ?_) (fun c => ?_)
              · replace h := h.1 c
                refine e_iconst (pc' := 75) (v := 0) (dAt D140 30 rfl) rfl (by decide) ?_
                exact e_ireturn (dAt D140 31 rfl) rfl ⟨rfl, fun e => by cases e⟩ h
              · replace h := h.2 c
                refine e_iconst (pc' := 71) (v := 1) (dAt D140 28 rfl) rfl (by decide) ?_
                refine e_goto (t := 75) (dAt D140 29 rfl) ⟨by decide, by decide⟩ ?_
                exact e_ireturn (dAt D140 31 rfl) rfl ⟨rfl, fun e => by cases e⟩ h
            · skip
              refine e_tableswitch (off := 57) (t := 76) (dAt D140 11 rfl) (if_pos (sw_out (fun k h1 h2 e => by
                have hk : k = 0 ∨ k = 1 ∨ k = 2 := by omega
                rcases hk with rfl | rfl | rfl
                · exact c0 (Int32.toInt_inj.mp (e.trans (by decide)))
                · exact c1 (Int32.toInt_inj.mp (e.trans (by decide)))
                · exact c2 (Int32.toInt_inj.mp (e.trans (by decide)))
                ))) ⟨by decide, by decide⟩ ?_
              refine e_iload_n (pc' := 77) (dAt D140 32 rfl) rfl rfl ?_
              refine e_iconst (pc' := 78) (v := 3) (dAt D140 33 rfl) rfl (by decide) ?_
              refine e_isub (pc' := 79) (dAt D140 34 rfl) rfl ?_
              refine e_aload_n (pc' := 80) (dAt D140 35 rfl) rfl rfl ?_
              refine e_getfield (pc' := 83) (dAt D140 36 rfl) rfl rfl hOx0 (hT.own hOx0 5 rfl) ?_
              refine e_iload_n (pc' := 84) (dAt D140 37 rfl) rfl rfl ?_
              obtain ⟨f1, h⟩ := h
              refine e_iaload (pc' := 85) (dAt D140 38 rfl) rfl (hT.arr hOx0 5 rfl (by decide)).1 (Or.inl (hT.arr hOx0 5 rfl (by decide)).2) f1 rfl ?_
              refine e_icmp_ge (t := 103) (pc' := 88) (dAt D140 39 rfl) ⟨by decide, by decide⟩ rfl (fun c => ?_) (fun c => ?_)
              · replace h := h.1 c
                refine e_bipush (pc' := 105) (v := (-3)) (dAt D140 51 rfl) rfl (by decide) ?_
                exact e_ireturn (dAt D140 52 rfl) rfl ⟨rfl, fun e => by cases e⟩ h
              · replace h := h.2 c
                refine e_aload_n (pc' := 89) (dAt D140 40 rfl) rfl rfl ?_
                refine e_getfield (pc' := 92) (dAt D140 41 rfl) rfl rfl hOx0 (hT.own hOx0 4 rfl) ?_
                refine e_iload_n (pc' := 93) (dAt D140 42 rfl) rfl rfl ?_
                refine e_iconst (pc' := 94) (v := 3) (dAt D140 43 rfl) rfl (by decide) ?_
                refine e_imul (pc' := 95) (dAt D140 44 rfl) rfl ?_
                refine e_iload_n (pc' := 96) (dAt D140 45 rfl) rfl rfl ?_
                refine e_iadd (pc' := 97) (dAt D140 46 rfl) rfl ?_
                refine e_iconst (pc' := 98) (v := 3) (dAt D140 47 rfl) rfl (by decide) ?_
                refine e_isub (pc' := 99) (dAt D140 48 rfl) rfl ?_
                obtain ⟨f1, h⟩ := h
                refine e_iaload (pc' := 100) (dAt D140 49 rfl) rfl (hT.arr hOx0 4 rfl (by decide)).1 (Or.inl (hT.arr hOx0 4 rfl (by decide)).2) f1 rfl ?_
                refine e_goto (t := 105) (dAt D140 50 rfl) ⟨by decide, by decide⟩ ?_
                exact e_ireturn (dAt D140 52 rfl) rfl ⟨rfl, fun e => by cases e⟩ h
      · replace h := h.2 c
        refine e_iconst (pc' := 17) (v := (-1)) (dAt D140 8 rfl) rfl (by decide) ?_
        exact e_ireturn (dAt D140 9 rfl) rfl ⟨rfl, fun e => by cases e⟩ h
-- PlaceNets$Unfolding.tellEvent.(II)I, from 60
set_option maxRecDepth 20000 in
theorem bk140_60 {d b : Nat} {Q : Option Value → mMem → Prop} {m : mMem} {x0 : Nat} {x1 : Int32} {x2 : Int32} {y0 : Int32} (hT : mWT m) (hOx0 : m.1 x0 = some (.inr 7) ∧ x0 ≠ 0)
    (h : Q (some (.int y0)) m) :
    mEs d 140 b g140 (60, [some (.ref x0), some (.int x1), some (.int x2)], [.int y0], m) Q := by
  exact e_ireturn (dAt D140 22 rfl) rfl ⟨rfl, fun e => by cases e⟩ h
-- PlaceNets$Unfolding.tellCondition.(II)I, from 0
set_option maxRecDepth 20000 in
theorem bk142_0 {d b : Nat} {Q : Option Value → mMem → Prop} {m : mMem} {x0 : Nat} {x1 : Int32} {x2 : Int32} (hT : mWT m) (hOx0 : m.1 x0 = some (.inr 7) ∧ x0 ≠ 0)
    (h : (((x1 < 0) → (Q (some (.int ((-1)))) m)) ∧ (¬ (x1 < 0) → (((x1 < (iF m x0 2)) → (((¬ x2 = 0) → ((mIn x1 80 = true) ∧ (((¬ (m.2.2.1 (64 * x0 + 8) x1.toNatClampNeg) = ((-1))) → ((mIn x1 80 = true) ∧ (Q (some (.int (m.2.2.1 (64 * x0 + 8) x1.toNatClampNeg))) m))) ∧ (¬ (¬ (m.2.2.1 (64 * x0 + 8) x1.toNatClampNeg) = ((-1))) → (Q (some (.int ((-3)))) m))))) ∧ (¬ (¬ x2 = 0) → ((mIn x1 80 = true) ∧ (Q (some (.int (m.2.2.1 (64 * x0 + 7) x1.toNatClampNeg))) m))))) ∧ (¬ (x1 < (iF m x0 2)) → (Q (some (.int ((-1)))) m)))))) :
    mEs d 142 b g142 (0, [some (.ref x0), some (.int x1), some (.int x2)], [], m) Q := by
  refine e_iload_n (pc' := 1) (dAt D142 0 rfl) rfl rfl ?_
  refine e_if_lt (t := 12) (pc' := 4) (dAt D142 1 rfl) ⟨by decide, by decide⟩ rfl (fun c => ?_) (fun c => ?_)
  · replace h := h.1 c
    refine e_iconst (pc' := 13) (v := (-1)) (dAt D142 6 rfl) rfl (by decide) ?_
    exact e_ireturn (dAt D142 7 rfl) rfl ⟨rfl, fun e => by cases e⟩ h
  · replace h := h.2 c
    refine e_iload_n (pc' := 5) (dAt D142 2 rfl) rfl rfl ?_
    refine e_aload_n (pc' := 6) (dAt D142 3 rfl) rfl rfl ?_
    refine e_getfield (pc' := 9) (dAt D142 4 rfl) rfl rfl hOx0 (hT.int hOx0 2 (by decide)) ?_
    refine e_icmp_lt (t := 14) (pc' := 12) (dAt D142 5 rfl) ⟨by decide, by decide⟩ rfl (fun c => ?_) (fun c => ?_)
    · replace h := h.1 c
      refine e_iload_n (pc' := 15) (dAt D142 8 rfl) rfl rfl ?_
      refine e_if_ne (t := 25) (pc' := 18) (dAt D142 9 rfl) ⟨by decide, by decide⟩ rfl (fun c => ?_) (fun c => ?_)
      · replace h := h.1 c
        refine e_aload_n (pc' := 26) (dAt D142 15 rfl) rfl rfl ?_
        refine e_getfield (pc' := 29) (dAt D142 16 rfl) rfl rfl hOx0 (hT.own hOx0 7 rfl) ?_
        refine e_iload_n (pc' := 30) (dAt D142 17 rfl) rfl rfl ?_
        obtain ⟨f1, h⟩ := h
        refine e_iaload (pc' := 31) (dAt D142 18 rfl) rfl (hT.arr hOx0 7 rfl (by decide)).1 (Or.inl (hT.arr hOx0 7 rfl (by decide)).2) f1 rfl ?_
        refine e_iconst (pc' := 32) (v := (-1)) (dAt D142 19 rfl) rfl (by decide) ?_
        refine e_icmp_ne (t := 40) (pc' := 35) (dAt D142 20 rfl) ⟨by decide, by decide⟩ rfl (fun c => ?_) (fun c => ?_)
        · replace h := h.1 c
          refine e_aload_n (pc' := 41) (dAt D142 23 rfl) rfl rfl ?_
          refine e_getfield (pc' := 44) (dAt D142 24 rfl) rfl rfl hOx0 (hT.own hOx0 7 rfl) ?_
          refine e_iload_n (pc' := 45) (dAt D142 25 rfl) rfl rfl ?_
          obtain ⟨f1, h⟩ := h
          refine e_iaload (pc' := 46) (dAt D142 26 rfl) rfl (hT.arr hOx0 7 rfl (by decide)).1 (Or.inl (hT.arr hOx0 7 rfl (by decide)).2) f1 rfl ?_
          exact e_ireturn (dAt D142 27 rfl) rfl ⟨rfl, fun e => by cases e⟩ h
        · replace h := h.2 c
          refine e_bipush (pc' := 37) (v := (-3)) (dAt D142 21 rfl) rfl (by decide) ?_
          refine e_goto (t := 46) (dAt D142 22 rfl) ⟨by decide, by decide⟩ ?_
          exact e_ireturn (dAt D142 27 rfl) rfl ⟨rfl, fun e => by cases e⟩ h
      · replace h := h.2 c
        refine e_aload_n (pc' := 19) (dAt D142 10 rfl) rfl rfl ?_
        refine e_getfield (pc' := 22) (dAt D142 11 rfl) rfl rfl hOx0 (hT.own hOx0 6 rfl) ?_
        refine e_iload_n (pc' := 23) (dAt D142 12 rfl) rfl rfl ?_
        obtain ⟨f1, h⟩ := h
        refine e_iaload (pc' := 24) (dAt D142 13 rfl) rfl (hT.arr hOx0 6 rfl (by decide)).1 (Or.inl (hT.arr hOx0 6 rfl (by decide)).2) f1 rfl ?_
        exact e_ireturn (dAt D142 14 rfl) rfl ⟨rfl, fun e => by cases e⟩ h
    · replace h := h.2 c
      refine e_iconst (pc' := 13) (v := (-1)) (dAt D142 6 rfl) rfl (by decide) ?_
      exact e_ireturn (dAt D142 7 rfl) rfl ⟨rfl, fun e => by cases e⟩ h
