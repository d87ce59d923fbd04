abbrev g60 : mG := (⟨"PlaceNets$Reach", "build", "(LPlaceNets$Net;[I)V"⟩, prog_5_method_2_code, 4, none, 6, 3, 5, false)
theorem G60 : mGm[60]? = some g60 := rfl
def tb60 : List (Nat × Instr × Nat) := [(0, .aload_n 0, 1), (1, .iconst (0), 1), (2, .putfield 39, 3), (5, .aload_n 0, 1), (6, .aload_n 1, 1), (7, .getfield 43, 3), (10, .putfield 49, 3), (13, .aload_n 0, 1), (14, .aload_n 1, 1), (15, .getfield 50, 3), (18, .putfield 53, 3), (21, .aload_n 0, 1), (22, .iconst (0), 1), (23, .putfield 54, 3), (26, .aload_n 0, 1), (27, .getfield 33, 3), (30, .iconst (-1), 1), (31, .invokestatic 57, 3), (34, .aload_n 0, 1), (35, .aload_n 1, 1), (36, .aload_n 2, 1), (37, .iconst (-1), 1), (38, .iconst (-1), 1), (39, .invokevirtual 63, 3), (42, .pop, 1), (43, .iconst (0), 1), (44, .istore_n 3, 1), (45, .iload_n 3, 1), (46, .sipush (300), 3), (49, .if_icmp .ge (30), 3), (52, .iload_n 3, 1), (53, .aload_n 0, 1), (54, .getfield 54, 3), (57, .if_icmp .ge (22), 3), (60, .aload_n 0, 1), (61, .getfield 39, 3), (64, .ifCond .ne (15), 3), (67, .aload_n 0, 1), (68, .aload_n 1, 1), (69, .iload_n 3, 1), (70, .invokevirtual 67, 3), (73, .iinc 3 (1), 3), (76, .goto (-31), 3), (79, .aload_n 0, 1), (80, .getfield 39, 3), (83, .ifCond .ne (7), 3), (86, .aload_n 0, 1), (87, .invokevirtual 71, 3), (90, .return_, 1)]
set_option maxRecDepth 20000 in
theorem D60 : tb60.all (dOk prog_5_method_2_code) = true := by decide +kernel
abbrev g61 : mG := (⟨"PlaceNets$Reach", "add", "(LPlaceNets$Net;[III)I"⟩, prog_5_method_4_code, 6, (some .int), 6, 5, 5, false)
theorem G61 : mGm[61]? = some g61 := rfl
def tb61 : List (Nat × Instr × Nat) := [(0, .aload_n 0, 1), (1, .getfield 54, 3), (4, .sipush (300), 3), (7, .if_icmp .lt (10), 3), (10, .aload_n 0, 1), (11, .iconst (1), 1), (12, .putfield 39, 3), (15, .iconst (-1), 1), (16, .ireturn, 1), (17, .aload_n 0, 1), (18, .getfield 54, 3), (21, .istore 5, 2), (23, .aload_n 0, 1), (24, .dup, 1), (25, .getfield 54, 3), (28, .iconst (1), 1), (29, .iadd, 1), (30, .putfield 54, 3), (33, .aload_n 2, 1), (34, .iconst (0), 1), (35, .aload_n 0, 1), (36, .getfield 15, 3), (39, .iload 5, 2), (41, .bipush (10), 2), (43, .imul, 1), (44, .bipush (10), 2), (46, .invokestatic 74, 3), (49, .aload_n 0, 1), (50, .getfield 33, 3), (53, .aload_n 0, 1), (54, .aload_n 2, 1), (55, .invokevirtual 87, 3), (58, .iload 5, 2), (60, .iastore, 1), (61, .aload_n 0, 1), (62, .getfield 18, 3), (65, .iload 5, 2), (67, .aload_n 1, 1), (68, .aload_n 2, 1), (69, .invokevirtual 90, 3), (72, .iastore, 1), (73, .aload_n 0, 1), (74, .getfield 21, 3), (77, .iload 5, 2), (79, .iload_n 3, 1), (80, .iastore, 1), (81, .aload_n 0, 1), (82, .getfield 24, 3), (85, .iload 5, 2), (87, .iload 4, 2), (89, .iastore, 1), (90, .aload_n 0, 1), (91, .getfield 11, 3), (94, .iload 5, 2), (96, .iload_n 3, 1), (97, .iconst (-1), 1), (98, .if_icmp .ne (7), 3), (101, .iconst (0), 1), (102, .goto (11), 3), (105, .aload_n 0, 1), (106, .getfield 11, 3), (109, .iload_n 3, 1), (110, .iaload, 1), (111, .iconst (1), 1), (112, .iadd, 1), (113, .iastore, 1), (114, .iload 5, 2), (116, .ireturn, 1)]
set_option maxRecDepth 20000 in
theorem D61 : tb61.all (dOk prog_5_method_4_code) = true := by decide +kernel
abbrev g62 : mG := (⟨"PlaceNets$Reach", "slotOf", "([I)I"⟩, prog_5_method_6_code, 5, (some .int), 6, 2, 5, false)
theorem G62 : mGm[62]? = some g62 := rfl
def tb62 : List (Nat × Instr × Nat) := [(0, .iconst (0), 1), (1, .istore_n 2, 1), (2, .iconst (0), 1), (3, .istore_n 3, 1), (4, .iload_n 3, 1), (5, .aload_n 0, 1), (6, .getfield 49, 3), (9, .if_icmp .ge (18), 3), (12, .iload_n 2, 1), (13, .bipush (101), 2), (15, .imul, 1), (16, .aload_n 1, 1), (17, .iload_n 3, 1), (18, .iaload, 1), (19, .iadd, 1), (20, .istore_n 2, 1), (21, .iinc 3 (1), 3), (24, .goto (-20), 3), (27, .iload_n 2, 1), (28, .iload_n 2, 1), (29, .bipush (13), 2), (31, .iushr, 1), (32, .ixor, 1), (33, .sipush (1023), 3), (36, .iand, 1), (37, .istore_n 3, 1), (38, .iconst (0), 1), (39, .istore 4, 2), (41, .iload 4, 2), (43, .sipush (1024), 3), (46, .if_icmp .ge (43), 3), (49, .aload_n 0, 1), (50, .getfield 33, 3), (53, .iload_n 3, 1), (54, .iaload, 1), (55, .iconst (-1), 1), (56, .if_icmp .eq (17), 3), (59, .aload_n 0, 1), (60, .aload_n 0, 1), (61, .getfield 33, 3), (64, .iload_n 3, 1), (65, .iaload, 1), (66, .aload_n 1, 1), (67, .invokevirtual 93, 3), (70, .ifCond .eq (5), 3), (73, .iload_n 3, 1), (74, .ireturn, 1), (75, .iload_n 3, 1), (76, .iconst (1), 1), (77, .iadd, 1), (78, .sipush (1023), 3), (81, .iand, 1), (82, .istore_n 3, 1), (83, .iinc 4 (1), 3), (86, .goto (-45), 3), (89, .iload_n 3, 1), (90, .ireturn, 1)]
set_option maxRecDepth 20000 in
theorem D62 : tb62.all (dOk prog_5_method_6_code) = true := by decide +kernel
abbrev g63 : mG := (⟨"PlaceNets$Reach", "isSame", "(I[I)Z"⟩, prog_5_method_7_code, 4, (some .boolean), 6, 3, 5, false)
theorem G63 : mGm[63]? = some g63 := rfl
def tb63 : List (Nat × Instr × Nat) := [(0, .iconst (0), 1), (1, .istore_n 3, 1), (2, .iload_n 3, 1), (3, .aload_n 0, 1), (4, .getfield 49, 3), (7, .if_icmp .ge (28), 3), (10, .aload_n 0, 1), (11, .getfield 15, 3), (14, .iload_n 1, 1), (15, .bipush (10), 2), (17, .imul, 1), (18, .iload_n 3, 1), (19, .iadd, 1), (20, .iaload, 1), (21, .aload_n 2, 1), (22, .iload_n 3, 1), (23, .iaload, 1), (24, .if_icmp .eq (5), 3), (27, .iconst (0), 1), (28, .ireturn, 1), (29, .iinc 3 (1), 3), (32, .goto (-30), 3), (35, .iconst (1), 1), (36, .ireturn, 1)]
set_option maxRecDepth 20000 in
theorem D63 : tb63.all (dOk prog_5_method_7_code) = true := by decide +kernel
abbrev g64 : mG := (⟨"PlaceNets$Reach", "spread", "(LPlaceNets$Net;I)V"⟩, prog_5_method_3_code, 5, none, 6, 3, 5, false)
theorem G64 : mGm[64]? = some g64 := rfl
def tb64 : List (Nat × Instr × Nat) := [(0, .iconst (0), 1), (1, .istore_n 3, 1), (2, .iload_n 3, 1), (3, .aload_n 0, 1), (4, .getfield 53, 3), (7, .if_icmp .ge (100), 3), (10, .aload_n 0, 1), (11, .getfield 39, 3), (14, .ifCond .ne (93), 3), (17, .aload_n 0, 1), (18, .getfield 18, 3), (21, .iload_n 2, 1), (22, .iaload, 1), (23, .iload_n 3, 1), (24, .ishr, 1), (25, .iconst (1), 1), (26, .iand, 1), (27, .iconst (1), 1), (28, .if_icmp .ne (73), 3), (31, .aload_n 0, 1), (32, .getfield 15, 3), (35, .iload_n 2, 1), (36, .bipush (10), 2), (38, .imul, 1), (39, .aload_n 0, 1), (40, .getfield 36, 3), (43, .iconst (0), 1), (44, .bipush (10), 2), (46, .invokestatic 74, 3), (49, .aload_n 1, 1), (50, .aload_n 0, 1), (51, .getfield 36, 3), (54, .iload_n 3, 1), (55, .invokevirtual 80, 3), (58, .aload_n 0, 1), (59, .aload_n 0, 1), (60, .getfield 36, 3), (63, .invokevirtual 83, 3), (66, .istore 4, 2), (68, .aload_n 0, 1), (69, .getfield 27, 3), (72, .iload_n 2, 1), (73, .bipush (10), 2), (75, .imul, 1), (76, .iload_n 3, 1), (77, .iadd, 1), (78, .iload 4, 2), (80, .iconst (-1), 1), (81, .if_icmp .ne (17), 3), (84, .aload_n 0, 1), (85, .aload_n 1, 1), (86, .aload_n 0, 1), (87, .getfield 36, 3), (90, .iload_n 2, 1), (91, .iload_n 3, 1), (92, .invokevirtual 63, 3), (95, .goto (5), 3), (98, .iload 4, 2), (100, .iastore, 1), (101, .iinc 3 (1), 3), (104, .goto (-102), 3), (107, .return_, 1)]
set_option maxRecDepth 20000 in
theorem D64 : tb64.all (dOk prog_5_method_3_code) = true := by decide +kernel
abbrev g65 : mG := (⟨"PlaceNets$Reach", "find", "([I)I"⟩, prog_5_method_5_code, 2, (some .int), 6, 2, 5, false)
theorem G65 : mGm[65]? = some g65 := rfl
def tb65 : List (Nat × Instr × Nat) := [(0, .aload_n 0, 1), (1, .getfield 33, 3), (4, .aload_n 0, 1), (5, .aload_n 1, 1), (6, .invokevirtual 87, 3), (9, .iaload, 1), (10, .ireturn, 1)]
set_option maxRecDepth 20000 in
theorem D65 : tb65.all (dOk prog_5_method_5_code) = true := by decide +kernel
abbrev g66 : mG := (⟨"PlaceNets$Reach", "lookAhead", "()V"⟩, prog_5_method_8_code, 5, none, 6, 1, 5, false)
theorem G66 : mGm[66]? = some g66 := rfl
def tb66 : List (Nat × Instr × Nat) := [(0, .iconst (0), 1), (1, .istore_n 1, 1), (2, .iload_n 1, 1), (3, .aload_n 0, 1), (4, .getfield 54, 3), (7, .if_icmp .ge (50), 3), (10, .aload_n 0, 1), (11, .getfield 30, 3), (14, .iload_n 1, 1), (15, .aload_n 0, 1), (16, .getfield 18, 3), (19, .iload_n 1, 1), (20, .iaload, 1), (21, .aload_n 0, 1), (22, .getfield 18, 3), (25, .iload_n 1, 1), (26, .iaload, 1), (27, .ifCond .ne (9), 3), (30, .sipush (2048), 3), (33, .goto (4), 3), (36, .iconst (0), 1), (37, .ior, 1), (38, .iload_n 1, 1), (39, .ifCond .ne (9), 3), (42, .sipush (1024), 3), (45, .goto (4), 3), (48, .iconst (0), 1), (49, .ior, 1), (50, .iastore, 1), (51, .iinc 1 (1), 3), (54, .goto (-52), 3), (57, .iconst (1), 1), (58, .istore_n 1, 1), (59, .iconst (0), 1), (60, .istore_n 2, 1), (61, .iload_n 2, 1), (62, .aload_n 0, 1), (63, .getfield 54, 3), (66, .if_icmp .gt (75), 3), (69, .iload_n 1, 1), (70, .ifCond .eq (71), 3), (73, .iconst (0), 1), (74, .istore_n 1, 1), (75, .aload_n 0, 1), (76, .getfield 54, 3), (79, .iconst (1), 1), (80, .isub, 1), (81, .istore_n 3, 1), (82, .iload_n 3, 1), (83, .ifCond .lt (52), 3), (86, .aload_n 0, 1), (87, .getfield 30, 3), (90, .iload_n 3, 1), (91, .iaload, 1), (92, .aload_n 0, 1), (93, .iload_n 3, 1), (94, .invokevirtual 97, 3), (97, .ior, 1), (98, .istore 4, 2), (100, .iload_n 1, 1), (101, .ifCond .ne (14), 3), (104, .iload 4, 2), (106, .aload_n 0, 1), (107, .getfield 30, 3), (110, .iload_n 3, 1), (111, .iaload, 1), (112, .if_icmp .eq (7), 3), (115, .iconst (1), 1), (116, .goto (4), 3), (119, .iconst (0), 1), (120, .istore_n 1, 1), (121, .aload_n 0, 1), (122, .getfield 30, 3), (125, .iload_n 3, 1), (126, .iload 4, 2), (128, .iastore, 1), (129, .iinc 3 (-1), 3), (132, .goto (-50), 3), (135, .iinc 2 (1), 3), (138, .goto (-77), 3), (141, .return_, 1)]
set_option maxRecDepth 20000 in
theorem D66 : tb66.all (dOk prog_5_method_8_code) = true := by decide +kernel
abbrev g67 : mG := (⟨"PlaceNets$Reach", "aheadOfNext", "(I)I"⟩, prog_5_method_9_code, 4, (some .int), 6, 2, 5, false)
theorem G67 : mGm[67]? = some g67 := rfl
def tb67 : List (Nat × Instr × Nat) := [(0, .iconst (0), 1), (1, .istore_n 2, 1), (2, .iconst (0), 1), (3, .istore_n 3, 1), (4, .iload_n 3, 1), (5, .aload_n 0, 1), (6, .getfield 53, 3), (9, .if_icmp .ge (42), 3), (12, .aload_n 0, 1), (13, .getfield 18, 3), (16, .iload_n 1, 1), (17, .iaload, 1), (18, .iload_n 3, 1), (19, .ishr, 1), (20, .iconst (1), 1), (21, .iand, 1), (22, .iconst (1), 1), (23, .if_icmp .ne (22), 3), (26, .iload_n 2, 1), (27, .aload_n 0, 1), (28, .getfield 30, 3), (31, .aload_n 0, 1), (32, .getfield 27, 3), (35, .iload_n 1, 1), (36, .bipush (10), 2), (38, .imul, 1), (39, .iload_n 3, 1), (40, .iadd, 1), (41, .iaload, 1), (42, .iaload, 1), (43, .ior, 1), (44, .istore_n 2, 1), (45, .iinc 3 (1), 3), (48, .goto (-44), 3), (51, .iload_n 2, 1), (52, .ireturn, 1)]
set_option maxRecDepth 20000 in
theorem D67 : tb67.all (dOk prog_5_method_9_code) = true := by decide +kernel
abbrev g68 : mG := (⟨"PlaceNets$Reach", "tell", "(II)I"⟩, prog_5_method_10_code, 3, (some .int), 6, 3, 5, false)
theorem G68 : mGm[68]? = some g68 := rfl
def tb68 : List (Nat × Instr × Nat) := [(0, .iload_n 1, 1), (1, .ifCond .lt (11), 3), (4, .iload_n 1, 1), (5, .aload_n 0, 1), (6, .getfield 54, 3), (9, .if_icmp .lt (5), 3), (12, .iconst (-1), 1), (13, .ireturn, 1), (14, .iload_n 2, 1), (15, .lookupswitch (39) #[(10, 25), (11, 32)], 25), (40, .aload_n 0, 1), (41, .getfield 18, 3), (44, .iload_n 1, 1), (45, .iaload, 1), (46, .ireturn, 1), (47, .aload_n 0, 1), (48, .getfield 11, 3), (51, .iload_n 1, 1), (52, .iaload, 1), (53, .ireturn, 1), (54, .iload_n 2, 1), (55, .ifCond .lt (25), 3), (58, .iload_n 2, 1), (59, .aload_n 0, 1), (60, .getfield 49, 3), (63, .if_icmp .ge (17), 3), (66, .aload_n 0, 1), (67, .getfield 15, 3), (70, .iload_n 1, 1), (71, .bipush (10), 2), (73, .imul, 1), (74, .iload_n 2, 1), (75, .iadd, 1), (76, .iaload, 1), (77, .goto (4), 3), (80, .iconst (-1), 1), (81, .ireturn, 1)]
set_option maxRecDepth 20000 in
theorem D68 : tb68.all (dOk prog_5_method_10_code) = true := by decide +kernel
abbrev g70 : mG := (⟨"PlaceNets$Reach", "countDead", "()I"⟩, prog_5_method_11_code, 3, (some .int), 6, 1, 5, false)
theorem G70 : mGm[70]? = some g70 := rfl
def tb70 : List (Nat × Instr × Nat) := [(0, .iconst (0), 1), (1, .istore_n 1, 1), (2, .iconst (0), 1), (3, .istore_n 2, 1), (4, .iload_n 2, 1), (5, .aload_n 0, 1), (6, .getfield 54, 3), (9, .if_icmp .ge (21), 3), (12, .aload_n 0, 1), (13, .getfield 18, 3), (16, .iload_n 2, 1), (17, .iaload, 1), (18, .ifCond .ne (6), 3), (21, .iinc 1 (1), 3), (24, .iinc 2 (1), 3), (27, .goto (-23), 3), (30, .iload_n 1, 1), (31, .ireturn, 1)]
set_option maxRecDepth 20000 in
theorem D70 : tb70.all (dOk prog_5_method_11_code) = true := by decide +kernel
abbrev g71 : mG := (⟨"PlaceNets$Reach", "leastDead", "()I"⟩, prog_5_method_12_code, 2, (some .int), 6, 1, 5, false)
theorem G71 : mGm[71]? = some g71 := rfl
def tb71 : List (Nat × Instr × Nat) := [(0, .iconst (0), 1), (1, .istore_n 1, 1), (2, .iload_n 1, 1), (3, .aload_n 0, 1), (4, .getfield 54, 3), (7, .if_icmp .ge (20), 3), (10, .aload_n 0, 1), (11, .getfield 18, 3), (14, .iload_n 1, 1), (15, .iaload, 1), (16, .ifCond .ne (5), 3), (19, .iload_n 1, 1), (20, .ireturn, 1), (21, .iinc 1 (1), 3), (24, .goto (-22), 3), (27, .bipush (-3), 2), (29, .ireturn, 1)]
set_option maxRecDepth 20000 in
theorem D71 : tb71.all (dOk prog_5_method_12_code) = true := by decide +kernel
abbrev g72 : mG := (⟨"PlaceNets$Reach", "countComingTo", "(I)I"⟩, prog_5_method_13_code, 4, (some .int), 6, 2, 5, false)
theorem G72 : mGm[72]? = some g72 := rfl
def tb72 : List (Nat × Instr × Nat) := [(0, .iconst (0), 1), (1, .istore_n 2, 1), (2, .iconst (0), 1), (3, .istore_n 3, 1), (4, .iload_n 3, 1), (5, .aload_n 0, 1), (6, .getfield 54, 3), (9, .if_icmp .ge (22), 3), (12, .iload_n 2, 1), (13, .aload_n 0, 1), (14, .getfield 30, 3), (17, .iload_n 3, 1), (18, .iaload, 1), (19, .iload_n 1, 1), (20, .ishr, 1), (21, .iconst (1), 1), (22, .iand, 1), (23, .iadd, 1), (24, .istore_n 2, 1), (25, .iinc 3 (1), 3), (28, .goto (-24), 3), (31, .iload_n 2, 1), (32, .ireturn, 1)]
set_option maxRecDepth 20000 in
theorem D72 : tb72.all (dOk prog_5_method_13_code) = true := by decide +kernel
abbrev g74 : mG := (⟨"PlaceNets$Reach", "liveness", "(I)I"⟩, prog_5_method_14_code, 3, (some .int), 6, 2, 5, false)
theorem G74 : mGm[74]? = some g74 := rfl
def tb74 : List (Nat × Instr × Nat) := [(0, .aload_n 0, 1), (1, .iload_n 1, 1), (2, .invokevirtual 101, 3), (5, .istore_n 2, 1), (6, .iload_n 2, 1), (7, .aload_n 0, 1), (8, .getfield 54, 3), (11, .if_icmp .ne (5), 3), (14, .iconst (2), 1), (15, .ireturn, 1), (16, .iload_n 2, 1), (17, .ifCond .le (7), 3), (20, .iconst (1), 1), (21, .goto (4), 3), (24, .iconst (0), 1), (25, .ireturn, 1)]
set_option maxRecDepth 20000 in
theorem D74 : tb74.all (dOk prog_5_method_14_code) = true := by decide +kernel
abbrev g76 : mG := (⟨"PlaceNets$Reach", "stepTo", "(II)I"⟩, prog_5_method_15_code, 5, (some .int), 6, 3, 5, false)
theorem G76 : mGm[76]? = some g76 := rfl
def tb76 : List (Nat × Instr × Nat) := [(0, .iload_n 2, 1), (1, .ifCond .lt (13), 3), (4, .iload_n 2, 1), (5, .aload_n 0, 1), (6, .getfield 11, 3), (9, .iload_n 1, 1), (10, .iaload, 1), (11, .if_icmp .lt (5), 3), (14, .iconst (-1), 1), (15, .ireturn, 1), (16, .iload_n 1, 1), (17, .istore_n 3, 1), (18, .iconst (0), 1), (19, .istore 4, 2), (21, .iload 4, 2), (23, .sipush (300), 3), (26, .if_icmp .ge (28), 3), (29, .aload_n 0, 1), (30, .getfield 11, 3), (33, .iload_n 3, 1), (34, .iaload, 1), (35, .iload_n 2, 1), (36, .iconst (1), 1), (37, .iadd, 1), (38, .if_icmp .le (16), 3), (41, .aload_n 0, 1), (42, .getfield 21, 3), (45, .iload_n 3, 1), (46, .iaload, 1), (47, .istore_n 3, 1), (48, .iinc 4 (1), 3), (51, .goto (-30), 3), (54, .aload_n 0, 1), (55, .getfield 24, 3), (58, .iload_n 3, 1), (59, .iaload, 1), (60, .ireturn, 1)]
set_option maxRecDepth 20000 in
theorem D76 : tb76.all (dOk prog_5_method_15_code) = true := by decide +kernel
-- PlaceNets$Reach.build.(LPlaceNets$Net;[I)V, from 0
set_option maxRecDepth 20000 in
theorem bk60_0 {d b : Nat} {Q : Option Value → mMem → Prop} {m : mMem} {x0 : Nat} {x1 : Nat} {x2 : Nat} {lx2 : Nat} {x3 : Option Value} (hT : mWT m) (hOx0 : m.1 x0 = some (.inr 5) ∧ x0 ≠ 0) (hOx1 : m.1 x1 = some (.inr 2) ∧ x1 ≠ 0) (hAx2 : m.1 x2 = some (.inl (.int, lx2)) ∧ x2 ≠ 0)
    (h : ∀ (m_1 : mMem), m_1 = (mSetF m x0 2 (.int 0)) → ∀ (m_3 : mMem), m_3 = (mSetF m_1 x0 12 (.int (iF m_1 x1 0))) → ∀ (m_5 : mMem), m_5 = (mSetF m_3 x0 13 (.int (iF m_3 x1 1))) → ∀ (m_7 : mMem), m_7 = (mSetF m_5 x0 1 (.int 0)) → mEv d 11 [.ref (64 * x0 + 8), .int ((-1))] m_7 (fun r m' => mEs d 60 b g60 (34, [some (.ref x0), some (.ref x1), some (.ref x2), x3], r.toList ++ [], m') Q)) :
    mEs d 60 b g60 (0, [some (.ref x0), some (.ref x1), some (.ref x2), x3], [], m) Q := by
  refine e_aload_n (pc' := 1) (dAt D60 0 rfl) rfl rfl ?_
  refine e_iconst (pc' := 2) (v := 0) (dAt D60 1 rfl) rfl (by decide) ?_
  replace h := h _ rfl
  refine e_putfield (pc' := 5) (dAt D60 2 rfl) rfl rfl hOx0 rfl rfl (fun e => by cases e) ?_
  refine wtF hT hOx0 (by decide) (fun hT_2 => ?_)
  refine e_aload_n (pc' := 6) (dAt D60 3 rfl) rfl rfl ?_
  refine e_aload_n (pc' := 7) (dAt D60 4 rfl) rfl rfl ?_
  refine e_getfield (pc' := 10) (dAt D60 5 rfl) rfl rfl hOx1 (hT_2.int hOx1 0 (by decide)) ?_
  replace h := h _ rfl
  refine e_putfield (pc' := 13) (dAt D60 6 rfl) rfl rfl hOx0 rfl rfl (fun e => by cases e) ?_
  refine wtF hT_2 hOx0 (by decide) (fun hT_4 => ?_)
  refine e_aload_n (pc' := 14) (dAt D60 7 rfl) rfl rfl ?_
  refine e_aload_n (pc' := 15) (dAt D60 8 rfl) rfl rfl ?_
  refine e_getfield (pc' := 18) (dAt D60 9 rfl) rfl rfl hOx1 (hT_4.int hOx1 1 (by decide)) ?_
  replace h := h _ rfl
  refine e_putfield (pc' := 21) (dAt D60 10 rfl) rfl rfl hOx0 rfl rfl (fun e => by cases e) ?_
  refine wtF hT_4 hOx0 (by decide) (fun hT_6 => ?_)
  refine e_aload_n (pc' := 22) (dAt D60 11 rfl) rfl rfl ?_
  refine e_iconst (pc' := 23) (v := 0) (dAt D60 12 rfl) rfl (by decide) ?_
  replace h := h _ rfl
  refine e_putfield (pc' := 26) (dAt D60 13 rfl) rfl rfl hOx0 rfl rfl (fun e => by cases e) ?_
  refine wtF hT_6 hOx0 (by decide) (fun hT_8 => ?_)
  refine e_aload_n (pc' := 27) (dAt D60 14 rfl) rfl rfl ?_
  refine e_getfield (pc' := 30) (dAt D60 15 rfl) rfl rfl hOx0 (hT_8.own hOx0 7 rfl) ?_
  refine e_iconst (pc' := 31) (v := (-1)) (dAt D60 16 rfl) rfl (by decide) ?_
  exact e_call2 h (dAt D60 17 rfl) (hi2 rfl) rfl G11 (by decide) rfl (Nat.le_of_ble_eq_true rfl) rfl rfl rfl
-- PlaceNets$Reach.build.(LPlaceNets$Net;[I)V, from 34
set_option maxRecDepth 20000 in
theorem bk60_34 {d b : Nat} {Q : Option Value → mMem → Prop} {m : mMem} {x0 : Nat} {x1 : Nat} {x2 : Nat} {lx2 : Nat} {x3 : Option Value} (hT : mWT m) (hOx0 : m.1 x0 = some (.inr 5) ∧ x0 ≠ 0) (hOx1 : m.1 x1 = some (.inr 2) ∧ x1 ≠ 0) (hAx2 : m.1 x2 = some (.inl (.int, lx2)) ∧ x2 ≠ 0)
    (h : mEv d 61 [.ref x0, .ref x1, .ref x2, .int ((-1)), .int ((-1))] m (fun r m' => mEs d 60 b g60 (42, [some (.ref x0), some (.ref x1), some (.ref x2), x3], r.toList ++ [], m') Q)) :
    mEs d 60 b g60 (34, [some (.ref x0), some (.ref x1), some (.ref x2), x3], [], m) Q := by
  refine e_aload_n (pc' := 35) (dAt D60 18 rfl) rfl rfl ?_
  refine e_aload_n (pc' := 36) (dAt D60 19 rfl) rfl rfl ?_
  refine e_aload_n (pc' := 37) (dAt D60 20 rfl) rfl rfl ?_
  refine e_iconst (pc' := 38) (v := (-1)) (dAt D60 21 rfl) rfl (by decide) ?_
  refine e_iconst (pc' := 39) (v := (-1)) (dAt D60 22 rfl) rfl (by decide) ?_
  exact e_call2 h (dAt D60 23 rfl) (hi0 rfl) rfl G61 (by decide) rfl (Nat.le_of_ble_eq_true rfl) (kV hOx0 rfl rfl) rfl rfl
-- PlaceNets$Reach.build.(LPlaceNets$Net;[I)V, from 42
set_option maxRecDepth 20000 in
theorem bk60_42 {d b : Nat} {Q : Option Value → mMem → Prop} {m : mMem} {x0 : Nat} {x1 : Nat} {x2 : Nat} {lx2 : Nat} {x3 : Option Value} {y0 : Int32} (hT : mWT m) (hOx0 : m.1 x0 = some (.inr 5) ∧ x0 ≠ 0) (hOx1 : m.1 x1 = some (.inr 2) ∧ x1 ≠ 0) (hAx2 : m.1 x2 = some (.inl (.int, lx2)) ∧ x2 ≠ 0)
    (h : mEs d 60 b g60 (45, [some (.ref x0), some (.ref x1), some (.ref x2), some (.int 0)], [], m) Q) :
    mEs d 60 b g60 (42, [some (.ref x0), some (.ref x1), some (.ref x2), x3], [.int y0], m) Q := by
  refine e_pop (pc' := 43) (dAt D60 24 rfl) rfl rfl ?_
  refine e_iconst (pc' := 44) (v := 0) (dAt D60 25 rfl) rfl (by decide) ?_
  refine e_istore_n (pc' := 45) (dAt D60 26 rfl) rfl (Nat.le_of_ble_eq_true rfl) rfl ?_
  exact h
-- PlaceNets$Reach.build.(LPlaceNets$Net;[I)V, from 45
set_option maxRecDepth 20000 in
theorem bk60_45 {d b : Nat} {Q : Option Value → mMem → Prop} {m : mMem} {x0 : Nat} {x1 : Nat} {x2 : Nat} {lx2 : Nat} {x3 : Int32} (hT : mWT m) (hOx0 : m.1 x0 = some (.inr 5) ∧ x0 ≠ 0) (hOx1 : m.1 x1 = some (.inr 2) ∧ x1 ≠ 0) (hAx2 : m.1 x2 = some (.inl (.int, lx2)) ∧ x2 ≠ 0)
    (h : (((300 ≤ x3) → (((¬ (iF m x0 2) = 0) → (mEs d 60 b g60 (90, [some (.ref x0), some (.ref x1), some (.ref x2), some (.int x3)], [], m) Q)) ∧ (¬ (¬ (iF m x0 2) = 0) → (mEv d 66 [.ref x0] m (fun r m' => mEs d 60 b g60 (90, [some (.ref x0), some (.ref x1), some (.ref x2), some (.int x3)], r.toList ++ [], m') Q))))) ∧ (¬ (300 ≤ x3) → ((((iF m x0 1) ≤ x3) → (((¬ (iF m x0 2) = 0) → (mEs d 60 b g60 (90, [some (.ref x0), some (.ref x1), some (.ref x2), some (.int x3)], [], m) Q)) ∧ (¬ (¬ (iF m x0 2) = 0) → (mEv d 66 [.ref x0] m (fun r m' => mEs d 60 b g60 (90, [some (.ref x0), some (.ref x1), some (.ref x2), some (.int x3)], r.toList ++ [], m') Q))))) ∧ (¬ ((iF m x0 1) ≤ x3) → (((¬ (iF m x0 2) = 0) → (((¬ (iF m x0 2) = 0) → (mEs d 60 b g60 (90, [some (.ref x0), some (.ref x1), some (.ref x2), some (.int x3)], [], m) Q)) ∧ (¬ (¬ (iF m x0 2) = 0) → (mEv d 66 [.ref x0] m (fun r m' => mEs d 60 b g60 (90, [some (.ref x0), some (.ref x1), some (.ref x2), some (.int x3)], r.toList ++ [], m') Q))))) ∧ (¬ (¬ (iF m x0 2) = 0) → (mEv d 64 [.ref x0, .ref x1, .int x3] m (fun r m' => mEs d 60 b g60 (73, [some (.ref x0), some (.ref x1), some (.ref x2), some (.int x3)], r.toList ++ [], m') Q))))))))) :
    mEs d 60 b g60 (45, [some (.ref x0), some (.ref x1), some (.ref x2), some (.int x3)], [], m) Q := by
  refine e_iload_n (pc' := 46) (dAt D60 27 rfl) rfl rfl ?_
  refine e_sipush (pc' := 49) (v := 300) (dAt D60 28 rfl) rfl (by decide) ?_
  refine e_icmp_ge (t := 79) (pc' := 52) (dAt D60 29 rfl) ⟨by decide, by decide⟩ rfl (fun c => ?_) (fun c => ?_)
  · replace h := h.1 c
    refine e_aload_n (pc' := 80) (dAt D60 43 rfl) rfl rfl ?_
    refine e_getfield (pc' := 83) (dAt D60 44 rfl) rfl rfl hOx0 (hT.int hOx0 2 (by decide)) ?_
    refine e_if_ne (t := 90) (pc' := 86) (dAt D60 45 rfl) ⟨by decide, by decide⟩ rfl (fun c => ?_) (fun c => ?_)
    · replace h := h.1 c
      exact h
    · replace h := h.2 c
      refine e_aload_n (pc' := 87) (dAt D60 46 rfl) rfl rfl ?_
      exact e_call2 h (dAt D60 47 rfl) (hi0 rfl) rfl G66 (by decide) rfl (Nat.le_of_ble_eq_true rfl) (kV hOx0 rfl rfl) rfl rfl
  · replace h := h.2 c
    refine e_iload_n (pc' := 53) (dAt D60 30 rfl) rfl rfl ?_
    refine e_aload_n (pc' := 54) (dAt D60 31 rfl) rfl rfl ?_
    refine e_getfield (pc' := 57) (dAt D60 32 rfl) rfl rfl hOx0 (hT.int hOx0 1 (by decide)) ?_
    refine e_icmp_ge (t := 79) (pc' := 60) (dAt D60 33 rfl) ⟨by decide, by decide⟩ rfl (fun c => ?_) (fun c => ?_)
    · replace h := h.1 c
      refine e_aload_n (pc' := 80) (dAt D60 43 rfl) rfl rfl ?_
      refine e_getfield (pc' := 83) (dAt D60 44 rfl) rfl rfl hOx0 (hT.int hOx0 2 (by decide)) ?_
      refine e_if_ne (t := 90) (pc' := 86) (dAt D60 45 rfl) ⟨by decide, by decide⟩ rfl (fun c => ?_) (fun c => ?_)
      · replace h := h.1 c
        exact h
      · replace h := h.2 c
        refine e_aload_n (pc' := 87) (dAt D60 46 rfl) rfl rfl ?_
        exact e_call2 h (dAt D60 47 rfl) (hi0 rfl) rfl G66 (by decide) rfl (Nat.le_of_ble_eq_true rfl) (kV hOx0 rfl rfl) rfl rfl
    · replace h := h.2 c
      refine e_aload_n (pc' := 61) (dAt D60 34 rfl) rfl rfl ?_
      refine e_getfield (pc' := 64) (dAt D60 35 rfl) rfl rfl hOx0 (hT.int hOx0 2 (by decide)) ?_
      refine e_if_ne (t := 79) (pc' := 67) (dAt D60 36 rfl) ⟨by decide, by decide⟩ rfl (fun c => ?_) (fun c => ?_)
      · replace h := h.1 c
        refine e_aload_n (pc' := 80) (dAt D60 43 rfl) rfl rfl ?_
        refine e_getfield (pc' := 83) (dAt D60 44 rfl) rfl rfl hOx0 (hT.int hOx0 2 (by decide)) ?_
        refine e_if_ne (t := 90) (pc' := 86) (dAt D60 45 rfl) ⟨by decide, by decide⟩ rfl (fun c => ?_) (fun c => ?_)
        · replace h := h.1 c
          exact h
        · replace h := h.2 c
          refine e_aload_n (pc' := 87) (dAt D60 46 rfl) rfl rfl ?_
          exact e_call2 h (dAt D60 47 rfl) (hi0 rfl) rfl G66 (by decide) rfl (Nat.le_of_ble_eq_true rfl) (kV hOx0 rfl rfl) rfl rfl
      · replace h := h.2 c
        refine e_aload_n (pc' := 68) (dAt D60 37 rfl) rfl rfl ?_
        refine e_aload_n (pc' := 69) (dAt D60 38 rfl) rfl rfl ?_
        refine e_iload_n (pc' := 70) (dAt D60 39 rfl) rfl rfl ?_
        exact e_call2 h (dAt D60 40 rfl) (hi0 rfl) rfl G64 (by decide) rfl (Nat.le_of_ble_eq_true rfl) (kV hOx0 rfl rfl) rfl rfl
-- PlaceNets$Reach.build.(LPlaceNets$Net;[I)V, from 73
set_option maxRecDepth 20000 in
theorem bk60_73 {d b : Nat} {Q : Option Value → mMem → Prop} {m : mMem} {x0 : Nat} {x1 : Nat} {x2 : Nat} {lx2 : Nat} {x3 : Int32} (hT : mWT m) (hOx0 : m.1 x0 = some (.inr 5) ∧ x0 ≠ 0) (hOx1 : m.1 x1 = some (.inr 2) ∧ x1 ≠ 0) (hAx2 : m.1 x2 = some (.inl (.int, lx2)) ∧ x2 ≠ 0)
    (h : ∀ (v_1 : Int32), v_1 = (x3 + 1) → mEs d 60 b g60 (45, [some (.ref x0), some (.ref x1), some (.ref x2), some (.int v_1)], [], m) Q) :
    mEs d 60 b g60 (73, [some (.ref x0), some (.ref x1), some (.ref x2), some (.int x3)], [], m) Q := by
  replace h := h _ rfl
  refine e_iinc (pc' := 76) (dAt D60 41 rfl) rfl rfl (Nat.le_of_ble_eq_true rfl) (congrArg (_ + ·) (show Int32.ofInt (1) = (1 : Int32) by decide)) rfl ?_
  refine e_goto (t := 45) (dAt D60 42 rfl) ⟨by decide, by decide⟩ ?_
  exact h
-- PlaceNets$Reach.build.(LPlaceNets$Net;[I)V, from 90
set_option maxRecDepth 20000 in
theorem bk60_90 {d b : Nat} {Q : Option Value → mMem → Prop} {m : mMem} {x0 : Nat} {x1 : Nat} {x2 : Nat} {lx2 : Nat} {x3 : Int32} (hT : mWT m) (hOx0 : m.1 x0 = some (.inr 5) ∧ x0 ≠ 0) (hOx1 : m.1 x1 = some (.inr 2) ∧ x1 ≠ 0) (hAx2 : m.1 x2 = some (.inl (.int, lx2)) ∧ x2 ≠ 0)
    (h : Q none m) :
    mEs d 60 b g60 (90, [some (.ref x0), some (.ref x1), some (.ref x2), some (.int x3)], [], m) Q := by
  exact e_return (dAt D60 48 rfl) rfl h
-- PlaceNets$Reach.add.(LPlaceNets$Net;[III)I, from 0
set_option maxRecDepth 20000 in
theorem bk61_0 {d b : Nat} {Q : Option Value → mMem → Prop} {m : mMem} {x0 : Nat} {x1 : Nat} {x2 : Nat} {lx2 : Nat} {x3 : Int32} {x4 : Int32} {x5 : Option Value} (hT : mWT m) (hOx0 : m.1 x0 = some (.inr 5) ∧ x0 ≠ 0) (hOx1 : m.1 x1 = some (.inr 2) ∧ x1 ≠ 0) (hAx2 : m.1 x2 = some (.inl (.int, lx2)) ∧ x2 ≠ 0) (hd1 : 1 ≤ d)
    (h : ((((iF m x0 1) < 300) → (∀ (v_1 : Int32), v_1 = (iF m x0 1) → ∀ (m_2 : mMem), m_2 = (mSetF m x0 1 (.int ((iF m x0 1) + 1))) → (¬ (0 : Int32) < 0 ∧ ¬ (v_1 * 10) < 0 ∧ ¬ (10 : Int32) < 0 ∧ (0 : Int32).toNatClampNeg + (10 : Int32).toNatClampNeg ≤ lx2 ∧ (v_1 * 10).toNatClampNeg + (10 : Int32).toNatClampNeg ≤ 3000) ∧ (∀ (m_4 : mMem), m_4 = (mSetI m_2 (64 * x0 + 2) (va_cpy (m_2.2.2.1 x2) (m_2.2.2.1 (64 * x0 + 2)) (0 : Int32).toNatClampNeg (v_1 * 10).toNatClampNeg (10 : Int32).toNatClampNeg)) → mEv d 62 [.ref x0, .ref x2] m_4 (fun r m' => mEs d 61 b g61 (58, [some (.ref x0), some (.ref x1), some (.ref x2), some (.int x3), some (.int x4), some (.int v_1)], r.toList ++ [.ref (64 * x0 + 8)], m') Q)))) ∧ (¬ ((iF m x0 1) < 300) → (∀ (m_6 : mMem), m_6 = (mSetF m x0 2 (.int 1)) → Q (some (.int ((-1)))) m_6)))) :
    mEs d 61 b g61 (0, [some (.ref x0), some (.ref x1), some (.ref x2), some (.int x3), some (.int x4), x5], [], m) Q := by
  refine e_aload_n (pc' := 1) (dAt D61 0 rfl) rfl rfl ?_
  refine e_getfield (pc' := 4) (dAt D61 1 rfl) rfl rfl hOx0 (hT.int hOx0 1 (by decide)) ?_
  refine e_sipush (pc' := 7) (v := 300) (dAt D61 2 rfl) rfl (by decide) ?_
  refine e_icmp_lt (t := 17) (pc' := 10) (dAt D61 3 rfl) ⟨by decide, by decide⟩ rfl (fun c => ?_) (fun c => ?_)
  · replace h := h.1 c
    refine e_aload_n (pc' := 18) (dAt D61 9 rfl) rfl rfl ?_
    refine e_getfield (pc' := 21) (dAt D61 10 rfl) rfl rfl hOx0 (hT.int hOx0 1 (by decide)) ?_
    replace h := h _ rfl
    refine e_istore (pc' := 23) (dAt D61 11 rfl) rfl (Nat.le_of_ble_eq_true rfl) rfl ?_
    refine e_aload_n (pc' := 24) (dAt D61 12 rfl) rfl rfl ?_
    refine e_dup (pc' := 25) (dAt D61 13 rfl) rfl rfl ?_
    refine e_getfield (pc' := 28) (dAt D61 14 rfl) rfl rfl hOx0 (hT.int hOx0 1 (by decide)) ?_
    refine e_iconst (pc' := 29) (v := 1) (dAt D61 15 rfl) rfl (by decide) ?_
    refine e_iadd (pc' := 30) (dAt D61 16 rfl) rfl ?_
    replace h := h _ rfl
    refine e_putfield (pc' := 33) (dAt D61 17 rfl) rfl rfl hOx0 rfl rfl (fun e => by cases e) ?_
    refine wtF hT hOx0 (by decide) (fun hT_3 => ?_)
    refine e_aload_n (pc' := 34) (dAt D61 18 rfl) rfl rfl ?_
    refine e_iconst (pc' := 35) (v := 0) (dAt D61 19 rfl) rfl (by decide) ?_
    refine e_aload_n (pc' := 36) (dAt D61 20 rfl) rfl rfl ?_
    refine e_getfield (pc' := 39) (dAt D61 21 rfl) rfl rfl hOx0 (hT_3.own hOx0 1 rfl) ?_
    refine e_iload (pc' := 41) (dAt D61 22 rfl) rfl rfl ?_
    refine e_bipush (pc' := 43) (v := 10) (dAt D61 23 rfl) rfl (by decide) ?_
    refine e_imul (pc' := 44) (dAt D61 24 rfl) rfl ?_
    refine e_bipush (pc' := 46) (v := 10) (dAt D61 25 rfl) rfl (by decide) ?_
    obtain ⟨f1, h⟩ := h
    replace h := h _ rfl
    refine e_copy (pc' := 49) (dAt D61 26 rfl) rfl rfl hAx2 (hT_3.arr hOx0 1 rfl (by decide)) f1 ⟨hd1, Nat.le_of_ble_eq_true rfl⟩ ?_
    refine wtI hT_3 (fun hT_5 => ?_)
    refine e_aload_n (pc' := 50) (dAt D61 27 rfl) rfl rfl ?_
    refine e_getfield (pc' := 53) (dAt D61 28 rfl) rfl rfl hOx0 (hT_5.own hOx0 7 rfl) ?_
    refine e_aload_n (pc' := 54) (dAt D61 29 rfl) rfl rfl ?_
    refine e_aload_n (pc' := 55) (dAt D61 30 rfl) rfl rfl ?_
    exact e_call2 h (dAt D61 31 rfl) (hi0 rfl) rfl G62 (by decide) rfl (Nat.le_of_ble_eq_true rfl) (kV hOx0 rfl rfl) rfl rfl
  · replace h := h.2 c
    refine e_aload_n (pc' := 11) (dAt D61 4 rfl) rfl rfl ?_
    refine e_iconst (pc' := 12) (v := 1) (dAt D61 5 rfl) rfl (by decide) ?_
    replace h := h _ rfl
    refine e_putfield (pc' := 15) (dAt D61 6 rfl) rfl rfl hOx0 rfl rfl (fun e => by cases e) ?_
    refine wtF hT hOx0 (by decide) (fun hT_7 => ?_)
    refine e_iconst (pc' := 16) (v := (-1)) (dAt D61 7 rfl) rfl (by decide) ?_
    exact e_ireturn (dAt D61 8 rfl) rfl ⟨rfl, fun e => by cases e⟩ h
-- PlaceNets$Reach.add.(LPlaceNets$Net;[III)I, from 58
set_option maxRecDepth 20000 in
theorem bk61_58 {d b : Nat} {Q : Option Value → mMem → Prop} {m : mMem} {x0 : Nat} {x1 : Nat} {x2 : Nat} {lx2 : Nat} {x3 : Int32} {x4 : Int32} {x5 : Int32} {y0 : Nat} {ly0 : Nat} {y1 : Int32} (hT : mWT m) (hOx0 : m.1 x0 = some (.inr 5) ∧ x0 ≠ 0) (hOx1 : m.1 x1 = some (.inr 2) ∧ x1 ≠ 0) (hAx2 : m.1 x2 = some (.inl (.int, lx2)) ∧ x2 ≠ 0) (hAy0 : m.1 y0 = some (.inl (.int, ly0)) ∧ y0 ≠ 0)
    (h : (mIn y1 ly0 = true) ∧ (∀ (m_1 : mMem), m_1 = (mSetI m y0 (upd (m.2.2.1 y0) y1.toNatClampNeg x5)) → mEv d 22 [.ref x1, .ref x2] m_1 (fun r m' => mEs d 61 b g61 (72, [some (.ref x0), some (.ref x1), some (.ref x2), some (.int x3), some (.int x4), some (.int x5)], r.toList ++ [.int x5, .ref (64 * x0 + 3)], m') Q))) :
    mEs d 61 b g61 (58, [some (.ref x0), some (.ref x1), some (.ref x2), some (.int x3), some (.int x4), some (.int x5)], [.int y1, .ref y0], m) Q := by
  refine e_iload (pc' := 60) (dAt D61 32 rfl) rfl rfl ?_
  obtain ⟨f1, h⟩ := h
  replace h := h _ rfl
  refine e_iastore (pc' := 61) (dAt D61 33 rfl) rfl hAy0.1 hAy0.2 f1 (nar_i _) ?_
  refine wtI hT (fun hT_2 => ?_)
  refine e_aload_n (pc' := 62) (dAt D61 34 rfl) rfl rfl ?_
  refine e_getfield (pc' := 65) (dAt D61 35 rfl) rfl rfl hOx0 (hT_2.own hOx0 2 rfl) ?_
  refine e_iload (pc' := 67) (dAt D61 36 rfl) rfl rfl ?_
  refine e_aload_n (pc' := 68) (dAt D61 37 rfl) rfl rfl ?_
  refine e_aload_n (pc' := 69) (dAt D61 38 rfl) rfl rfl ?_
  exact e_call2 h (dAt D61 39 rfl) (hi0 rfl) rfl G22 (by decide) rfl (Nat.le_of_ble_eq_true rfl) (kV hOx1 rfl rfl) rfl rfl
-- PlaceNets$Reach.add.(LPlaceNets$Net;[III)I, from 72
set_option maxRecDepth 20000 in
theorem bk61_72 {d b : Nat} {Q : Option Value → mMem → Prop} {m : mMem} {x0 : Nat} {x1 : Nat} {x2 : Nat} {lx2 : Nat} {x3 : Int32} {x4 : Int32} {x5 : Int32} {y0 : Nat} {ly0 : Nat} {y1 : Int32} {y2 : Int32} (hT : mWT m) (hOx0 : m.1 x0 = some (.inr 5) ∧ x0 ≠ 0) (hOx1 : m.1 x1 = some (.inr 2) ∧ x1 ≠ 0) (hAx2 : m.1 x2 = some (.inl (.int, lx2)) ∧ x2 ≠ 0) (hAy0 : m.1 y0 = some (.inl (.int, ly0)) ∧ y0 ≠ 0)
    (h : (mIn y1 ly0 = true) ∧ (∀ (m_1 : mMem), m_1 = (mSetI m y0 (upd (m.2.2.1 y0) y1.toNatClampNeg y2)) → (mIn x5 300 = true) ∧ (∀ (m_3 : mMem), m_3 = (mSetI m_1 (64 * x0 + 4) (upd (m_1.2.2.1 (64 * x0 + 4)) x5.toNatClampNeg x3)) → (mIn x5 300 = true) ∧ (∀ (m_5 : mMem), m_5 = (mSetI m_3 (64 * x0 + 5) (upd (m_3.2.2.1 (64 * x0 + 5)) x5.toNatClampNeg x4)) → (((¬ x3 = ((-1))) → ((mIn x3 300 = true) ∧ ((mIn x5 300 = true) ∧ (∀ (m_7 : mMem), m_7 = (mSetI m_5 (64 * x0 + 1) (upd (m_5.2.2.1 (64 * x0 + 1)) x5.toNatClampNeg ((m_5.2.2.1 (64 * x0 + 1) x3.toNatClampNeg) + 1))) → Q (some (.int x5)) m_7)))) ∧ (¬ (¬ x3 = ((-1))) → ((mIn x5 300 = true) ∧ (∀ (m_9 : mMem), m_9 = (mSetI m_5 (64 * x0 + 1) (upd (m_5.2.2.1 (64 * x0 + 1)) x5.toNatClampNeg 0)) → Q (some (.int x5)) m_9)))))))) :
    mEs d 61 b g61 (72, [some (.ref x0), some (.ref x1), some (.ref x2), some (.int x3), some (.int x4), some (.int x5)], [.int y2, .int y1, .ref y0], m) Q := by
  obtain ⟨f1, h⟩ := h
  replace h := h _ rfl
  refine e_iastore (pc' := 73) (dAt D61 40 rfl) rfl hAy0.1 hAy0.2 f1 (nar_i _) ?_
  refine wtI hT (fun hT_2 => ?_)
  refine e_aload_n (pc' := 74) (dAt D61 41 rfl) rfl rfl ?_
  refine e_getfield (pc' := 77) (dAt D61 42 rfl) rfl rfl hOx0 (hT_2.own hOx0 3 rfl) ?_
  refine e_iload (pc' := 79) (dAt D61 43 rfl) rfl rfl ?_
  refine e_iload_n (pc' := 80) (dAt D61 44 rfl) rfl rfl ?_
  obtain ⟨f1, h⟩ := h
  replace h := h _ rfl
  refine e_iastore (pc' := 81) (dAt D61 45 rfl) rfl (hT_2.arr hOx0 3 rfl (by decide)).1 (hT_2.arr hOx0 3 rfl (by decide)).2 f1 (nar_i _) ?_
  refine wtI hT_2 (fun hT_4 => ?_)
  refine e_aload_n (pc' := 82) (dAt D61 46 rfl) rfl rfl ?_
  refine e_getfield (pc' := 85) (dAt D61 47 rfl) rfl rfl hOx0 (hT_4.own hOx0 4 rfl) ?_
  refine e_iload (pc' := 87) (dAt D61 48 rfl) rfl rfl ?_
  refine e_iload (pc' := 89) (dAt D61 49 rfl) rfl rfl ?_
  obtain ⟨f1, h⟩ := h
  replace h := h _ rfl
  refine e_iastore (pc' := 90) (dAt D61 50 rfl) rfl (hT_4.arr hOx0 4 rfl (by decide)).1 (hT_4.arr hOx0 4 rfl (by decide)).2 f1 (nar_i _) ?_
  refine wtI hT_4 (fun hT_6 => ?_)
  refine e_aload_n (pc' := 91) (dAt D61 51 rfl) rfl rfl ?_
  refine e_getfield (pc' := 94) (dAt D61 52 rfl) rfl rfl hOx0 (hT_6.own hOx0 0 rfl) ?_
  refine e_iload (pc' := 96) (dAt D61 53 rfl) rfl rfl ?_
  refine e_iload_n (pc' := 97) (dAt D61 54 rfl) rfl rfl ?_
  refine e_iconst (pc' := 98) (v := (-1)) (dAt D61 55 rfl) rfl (by decide) ?_
  refine e_icmp_ne (t := 105) (pc' := 101) (dAt D61 56 rfl) ⟨by decide, by decide⟩ rfl (fun c => ?_) (fun c => ?_)
  · replace h := h.1 c
    refine e_aload_n (pc' := 106) (dAt D61 59 rfl) rfl rfl ?_
    refine e_getfield (pc' := 109) (dAt D61 60 rfl) rfl rfl hOx0 (hT_6.own hOx0 0 rfl) ?_
    refine e_iload_n (pc' := 110) (dAt D61 61 rfl) rfl rfl ?_
    obtain ⟨f1, h⟩ := h
    refine e_iaload (pc' := 111) (dAt D61 62 rfl) rfl (hT_6.arr hOx0 0 rfl (by decide)).1 (Or.inl (hT_6.arr hOx0 0 rfl (by decide)).2) f1 rfl ?_
    refine e_iconst (pc' := 112) (v := 1) (dAt D61 63 rfl) rfl (by decide) ?_
    refine e_iadd (pc' := 113) (dAt D61 64 rfl) rfl ?_
    obtain ⟨f1, h⟩ := h
    replace h := h _ rfl
    refine e_iastore (pc' := 114) (dAt D61 65 rfl) rfl (hT_6.arr hOx0 0 rfl (by decide)).1 (hT_6.arr hOx0 0 rfl (by decide)).2 f1 (nar_i _) ?_
    refine wtI hT_6 (fun hT_8 => ?_)
    refine e_iload (pc' := 116) (dAt D61 66 rfl) rfl rfl ?_
    exact e_ireturn (dAt D61 67 rfl) rfl ⟨rfl, fun e => by cases e⟩ h
  · replace h := h.2 c
    refine e_iconst (pc' := 102) (v := 0) (dAt D61 57 rfl) rfl (by decide) ?_
    refine e_goto (t := 113) (dAt D61 58 rfl) ⟨by decide, by decide⟩ ?_
    obtain ⟨f1, h⟩ := h
    replace h := h _ rfl
    refine e_iastore (pc' := 114) (dAt D61 65 rfl) rfl (hT_6.arr hOx0 0 rfl (by decide)).1 (hT_6.arr hOx0 0 rfl (by decide)).2 f1 (nar_i _) ?_
    refine wtI hT_6 (fun hT_10 => ?_)
    refine e_iload (pc' := 116) (dAt D61 66 rfl) rfl rfl ?_
    exact e_ireturn (dAt D61 67 rfl) rfl ⟨rfl, fun e => by cases e⟩ h
-- PlaceNets$Reach.slotOf.([I)I, from 0
set_option maxRecDepth 20000 in
theorem bk62_0 {d b : Nat} {Q : Option Value → mMem → Prop} {m : mMem} {x0 : Nat} {x1 : Nat} {lx1 : Nat} {x2 : Option Value} {x3 : Option Value} {x4 : Option Value} (hT : mWT m) (hOx0 : m.1 x0 = some (.inr 5) ∧ x0 ≠ 0) (hAx1 : m.1 x1 = some (.inl (.int, lx1)) ∧ x1 ≠ 0)
    (h : mEs d 62 b g62 (4, [some (.ref x0), some (.ref x1), some (.int 0), some (.int 0), x4], [], m) Q) :
    mEs d 62 b g62 (0, [some (.ref x0), some (.ref x1), x2, x3, x4], [], m) Q := by
  refine e_iconst (pc' := 1) (v := 0) (dAt D62 0 rfl) rfl (by decide) ?_
  refine e_istore_n (pc' := 2) (dAt D62 1 rfl) rfl (Nat.le_of_ble_eq_true rfl) rfl ?_
  refine e_iconst (pc' := 3) (v := 0) (dAt D62 2 rfl) rfl (by decide) ?_
  refine e_istore_n (pc' := 4) (dAt D62 3 rfl) rfl (Nat.le_of_ble_eq_true rfl) rfl ?_
  exact h
-- PlaceNets$Reach.slotOf.([I)I, from 4
set_option maxRecDepth 20000 in
theorem bk62_4 {d b : Nat} {Q : Option Value → mMem → Prop} {m : mMem} {x0 : Nat} {x1 : Nat} {lx1 : Nat} {x2 : Int32} {x3 : Int32} {x4 : Option Value} (hT : mWT m) (hOx0 : m.1 x0 = some (.inr 5) ∧ x0 ≠ 0) (hAx1 : m.1 x1 = some (.inl (.int, lx1)) ∧ x1 ≠ 0)
    (h : ((((iF m x0 12) ≤ x3) → (∀ (v_1 : Int32), v_1 = ((x2 ^^^ ((x2.toUInt32 >>> ((13 : Int32).toUInt32 &&& Int32.toUInt32 31)).toInt32)) &&& 1023) → mEs d 62 b g62 (41, [some (.ref x0), some (.ref x1), some (.int x2), some (.int v_1), some (.int 0)], [], m) Q)) ∧ (¬ ((iF m x0 12) ≤ x3) → ((mIn x3 lx1 = true) ∧ (∀ (v_2 : Int32), v_2 = ((x2 * 101) + (m.2.2.1 x1 x3.toNatClampNeg)) → ∀ (v_3 : Int32), v_3 = (x3 + 1) → mEs d 62 b g62 (4, [some (.ref x0), some (.ref x1), some (.int v_2), some (.int v_3), x4], [], m) Q))))) :
    mEs d 62 b g62 (4, [some (.ref x0), some (.ref x1), some (.int x2), some (.int x3), x4], [], m) Q := by
  refine e_iload_n (pc' := 5) (dAt D62 4 rfl) rfl rfl ?_
  refine e_aload_n (pc' := 6) (dAt D62 5 rfl) rfl rfl ?_
  refine e_getfield (pc' := 9) (dAt D62 6 rfl) rfl rfl hOx0 (hT.int hOx0 12 (by decide)) ?_
  refine e_icmp_ge (t := 27) (pc' := 12) (dAt D62 7 rfl) ⟨by decide, by decide⟩ rfl (fun c => ?_) (fun c => ?_)
  · replace h := h.1 c
    refine e_iload_n (pc' := 28) (dAt D62 18 rfl) rfl rfl ?_
    refine e_iload_n (pc' := 29) (dAt D62 19 rfl) rfl rfl ?_
    refine e_bipush (pc' := 31) (v := 13) (dAt D62 20 rfl) rfl (by decide) ?_
    refine e_iushr (pc' := 32) (dAt D62 21 rfl) rfl ?_
    refine e_ixor (pc' := 33) (dAt D62 22 rfl) rfl ?_
    refine e_sipush (pc' := 36) (v := 1023) (dAt D62 23 rfl) rfl (by decide) ?_
    refine e_iand (pc' := 37) (dAt D62 24 rfl) rfl ?_
    replace h := h _ rfl
    refine e_istore_n (pc' := 38) (dAt D62 25 rfl) rfl (Nat.le_of_ble_eq_true rfl) rfl ?_
    refine e_iconst (pc' := 39) (v := 0) (dAt D62 26 rfl) rfl (by decide) ?_
    refine e_istore (pc' := 41) (dAt D62 27 rfl) rfl (Nat.le_of_ble_eq_true rfl) rfl ?_
    exact h
  · replace h := h.2 c
    refine e_iload_n (pc' := 13) (dAt D62 8 rfl) rfl rfl ?_
    refine e_bipush (pc' := 15) (v := 101) (dAt D62 9 rfl) rfl (by decide) ?_
    refine e_imul (pc' := 16) (dAt D62 10 rfl) rfl ?_
    refine e_aload_n (pc' := 17) (dAt D62 11 rfl) rfl rfl ?_
    refine e_iload_n (pc' := 18) (dAt D62 12 rfl) rfl rfl ?_
    obtain ⟨f1, h⟩ := h
    refine e_iaload (pc' := 19) (dAt D62 13 rfl) rfl hAx1.1 (Or.inl hAx1.2) f1 rfl ?_
    refine e_iadd (pc' := 20) (dAt D62 14 rfl) rfl ?_
    replace h := h _ rfl
    refine e_istore_n (pc' := 21) (dAt D62 15 rfl) rfl (Nat.le_of_ble_eq_true rfl) rfl ?_
    replace h := h _ rfl
    refine e_iinc (pc' := 24) (dAt D62 16 rfl) rfl rfl (Nat.le_of_ble_eq_true rfl) (congrArg (_ + ·) (show Int32.ofInt (1) = (1 : Int32) by decide)) rfl ?_
    refine e_goto (t := 4) (dAt D62 17 rfl) ⟨by decide, by decide⟩ ?_
    exact h
-- PlaceNets$Reach.slotOf.([I)I, from 41
set_option maxRecDepth 20000 in
theorem bk62_41 {d b : Nat} {Q : Option Value → mMem → Prop} {m : mMem} {x0 : Nat} {x1 : Nat} {lx1 : Nat} {x2 : Int32} {x3 : Int32} {x4 : Int32} (hT : mWT m) (hOx0 : m.1 x0 = some (.inr 5) ∧ x0 ≠ 0) (hAx1 : m.1 x1 = some (.inl (.int, lx1)) ∧ x1 ≠ 0)
    (h : (((1024 ≤ x4) → (Q (some (.int x3)) m)) ∧ (¬ (1024 ≤ x4) → ((mIn x3 1024 = true) ∧ ((((m.2.2.1 (64 * x0 + 8) x3.toNatClampNeg) = ((-1))) → (Q (some (.int x3)) m)) ∧ (¬ ((m.2.2.1 (64 * x0 + 8) x3.toNatClampNeg) = ((-1))) → ((mIn x3 1024 = true) ∧ (mEv d 63 [.ref x0, .int (m.2.2.1 (64 * x0 + 8) x3.toNatClampNeg), .ref x1] m (fun r m' => mEs d 62 b g62 (70, [some (.ref x0), some (.ref x1), some (.int x2), some (.int x3), some (.int x4)], r.toList ++ [], m') Q))))))))) :
    mEs d 62 b g62 (41, [some (.ref x0), some (.ref x1), some (.int x2), some (.int x3), some (.int x4)], [], m) Q := by
  refine e_iload (pc' := 43) (dAt D62 28 rfl) rfl rfl ?_
  refine e_sipush (pc' := 46) (v := 1024) (dAt D62 29 rfl) rfl (by decide) ?_
  refine e_icmp_ge (t := 89) (pc' := 49) (dAt D62 30 rfl) ⟨by decide, by decide⟩ rfl (fun c => ?_) (fun c => ?_)
  · replace h := h.1 c
    refine e_iload_n (pc' := 90) (dAt D62 55 rfl) rfl rfl ?_
    exact e_ireturn (dAt D62 56 rfl) rfl ⟨rfl, fun e => by cases e⟩ h
  · replace h := h.2 c
    refine e_aload_n (pc' := 50) (dAt D62 31 rfl) rfl rfl ?_
    refine e_getfield (pc' := 53) (dAt D62 32 rfl) rfl rfl hOx0 (hT.own hOx0 7 rfl) ?_
    refine e_iload_n (pc' := 54) (dAt D62 33 rfl) rfl rfl ?_
    obtain ⟨f1, h⟩ := h
    refine e_iaload (pc' := 55) (dAt D62 34 rfl) rfl (hT.arr hOx0 7 rfl (by decide)).1 (Or.inl (hT.arr hOx0 7 rfl (by decide)).2) f1 rfl ?_
    refine e_iconst (pc' := 56) (v := (-1)) (dAt D62 35 rfl) rfl (by decide) ?_
    refine e_icmp_eq (t := 73) (pc' := 59) (dAt D62 36 rfl) ⟨by decide, by decide⟩ rfl (fun c => ?_) (fun c => ?_)
    · replace h := h.1 c
      refine e_iload_n (pc' := 74) (dAt D62 45 rfl) rfl rfl ?_
      exact e_ireturn (dAt D62 46 rfl) rfl ⟨rfl, fun e => by cases e⟩ h
    · replace h := h.2 c
      refine e_aload_n (pc' := 60) (dAt D62 37 rfl) rfl rfl ?_
      refine e_aload_n (pc' := 61) (dAt D62 38 rfl) rfl rfl ?_
      refine e_getfield (pc' := 64) (dAt D62 39 rfl) rfl rfl hOx0 (hT.own hOx0 7 rfl) ?_
      refine e_iload_n (pc' := 65) (dAt D62 40 rfl) rfl rfl ?_
      obtain ⟨f1, h⟩ := h
      refine e_iaload (pc' := 66) (dAt D62 41 rfl) rfl (hT.arr hOx0 7 rfl (by decide)).1 (Or.inl (hT.arr hOx0 7 rfl (by decide)).2) f1 rfl ?_
      refine e_aload_n (pc' := 67) (dAt D62 42 rfl) rfl rfl ?_
      exact e_call2 h (dAt D62 43 rfl) (hi0 rfl) rfl G63 (by decide) rfl (Nat.le_of_ble_eq_true rfl) (kV hOx0 rfl rfl) rfl rfl
-- PlaceNets$Reach.slotOf.([I)I, from 70
set_option maxRecDepth 20000 in
theorem bk62_70 {d b : Nat} {Q : Option Value → mMem → Prop} {m : mMem} {x0 : Nat} {x1 : Nat} {lx1 : Nat} {x2 : Int32} {x3 : Int32} {x4 : Int32} {y0 : Int32} (hT : mWT m) (hOx0 : m.1 x0 = some (.inr 5) ∧ x0 ≠ 0) (hAx1 : m.1 x1 = some (.inl (.int, lx1)) ∧ x1 ≠ 0)
    (h : (((y0 = 0) → (∀ (v_1 : Int32), v_1 = ((x3 + 1) &&& 1023) → ∀ (v_2 : Int32), v_2 = (x4 + 1) → mEs d 62 b g62 (41, [some (.ref x0), some (.ref x1), some (.int x2), some (.int v_1), some (.int v_2)], [], m) Q)) ∧ (¬ (y0 = 0) → (Q (some (.int x3)) m)))) :
    mEs d 62 b g62 (70, [some (.ref x0), some (.ref x1), some (.int x2), some (.int x3), some (.int x4)], [.int y0], m) Q := by
  refine e_if_eq (t := 75) (pc' := 73) (dAt D62 44 rfl) ⟨by decide, by decide⟩ rfl (fun c => ?_) (fun c => ?_)
  · replace h := h.1 c
    refine e_iload_n (pc' := 76) (dAt D62 47 rfl) rfl rfl ?_
    refine e_iconst (pc' := 77) (v := 1) (dAt D62 48 rfl) rfl (by decide) ?_
    refine e_iadd (pc' := 78) (dAt D62 49 rfl) rfl ?_
    refine e_sipush (pc' := 81) (v := 1023) (dAt D62 50 rfl) rfl (by decide) ?_
    refine e_iand (pc' := 82) (dAt D62 51 rfl) rfl ?_
    replace h := h _ rfl
    refine e_istore_n (pc' := 83) (dAt D62 52 rfl) rfl (Nat.le_of_ble_eq_true rfl) rfl ?_
    replace h := h _ rfl
    refine e_iinc (pc' := 86) (dAt D62 53 rfl) rfl rfl (Nat.le_of_ble_eq_true rfl) (congrArg (_ + ·) (show Int32.ofInt (1) = (1 : Int32) by decide)) rfl ?_
    refine e_goto (t := 41) (dAt D62 54 rfl) ⟨by decide, by decide⟩ ?_
    exact h
  · replace h := h.2 c
    refine e_iload_n (pc' := 74) (dAt D62 45 rfl) rfl rfl ?_
    exact e_ireturn (dAt D62 46 rfl) rfl ⟨rfl, fun e => by cases e⟩ h
-- PlaceNets$Reach.isSame.(I[I)Z, from 0
set_option maxRecDepth 20000 in
theorem bk63_0 {d b : Nat} {Q : Option Value → mMem → Prop} {m : mMem} {x0 : Nat} {x1 : Int32} {x2 : Nat} {lx2 : Nat} {x3 : Option Value} (hT : mWT m) (hOx0 : m.1 x0 = some (.inr 5) ∧ x0 ≠ 0) (hAx2 : m.1 x2 = some (.inl (.int, lx2)) ∧ x2 ≠ 0)
    (h : mEs d 63 b g63 (2, [some (.ref x0), some (.int x1), some (.ref x2), some (.int 0)], [], m) Q) :
    mEs d 63 b g63 (0, [some (.ref x0), some (.int x1), some (.ref x2), x3], [], m) Q := by
  refine e_iconst (pc' := 1) (v := 0) (dAt D63 0 rfl) rfl (by decide) ?_
  refine e_istore_n (pc' := 2) (dAt D63 1 rfl) rfl (Nat.le_of_ble_eq_true rfl) rfl ?_
  exact h
-- PlaceNets$Reach.isSame.(I[I)Z, from 2
set_option maxRecDepth 20000 in
theorem bk63_2 {d b : Nat} {Q : Option Value → mMem → Prop} {m : mMem} {x0 : Nat} {x1 : Int32} {x2 : Nat} {lx2 : Nat} {x3 : Int32} (hT : mWT m) (hOx0 : m.1 x0 = some (.inr 5) ∧ x0 ≠ 0) (hAx2 : m.1 x2 = some (.inl (.int, lx2)) ∧ x2 ≠ 0)
    (h : ((((iF m x0 12) ≤ x3) → (Q (some (.int 1)) m)) ∧ (¬ ((iF m x0 12) ≤ x3) → ((mIn ((x1 * 10) + x3) 3000 = true) ∧ ((mIn x3 lx2 = true) ∧ ((((m.2.2.1 (64 * x0 + 2) ((x1 * 10) + x3).toNatClampNeg) = (m.2.2.1 x2 x3.toNatClampNeg)) → (∀ (v_1 : Int32), v_1 = (x3 + 1) → mEs d 63 b g63 (2, [some (.ref x0), some (.int x1), some (.ref x2), some (.int v_1)], [], m) Q)) ∧ (¬ ((m.2.2.1 (64 * x0 + 2) ((x1 * 10) + x3).toNatClampNeg) = (m.2.2.1 x2 x3.toNatClampNeg)) → (Q (some (.int 0)) m)))))))) :
    mEs d 63 b g63 (2, [some (.ref x0), some (.int x1), some (.ref x2), some (.int x3)], [], m) Q := by
  refine e_iload_n (pc' := 3) (dAt D63 2 rfl) rfl rfl ?_
  refine e_aload_n (pc' := 4) (dAt D63 3 rfl) rfl rfl ?_
  refine e_getfield (pc' := 7) (dAt D63 4 rfl) rfl rfl hOx0 (hT.int hOx0 12 (by decide)) ?_
  refine e_icmp_ge (t := 35) (pc' := 10) (dAt D63 5 rfl) ⟨by decide, by decide⟩ rfl (fun c => ?_) (fun c => ?_)
  · replace h := h.1 c
    refine e_iconst (pc' := 36) (v := 1) (dAt D63 22 rfl) rfl (by decide) ?_
    exact e_ireturn (dAt D63 23 rfl) rfl ⟨rfl, fun e => by cases e⟩ h
  · replace h := h.2 c
    refine e_aload_n (pc' := 11) (dAt D63 6 rfl) rfl rfl ?_
    refine e_getfield (pc' := 14) (dAt D63 7 rfl) rfl rfl hOx0 (hT.own hOx0 1 rfl) ?_
    refine e_iload_n (pc' := 15) (dAt D63 8 rfl) rfl rfl ?_
    refine e_bipush (pc' := 17) (v := 10) (dAt D63 9 rfl) rfl (by decide) ?_
    refine e_imul (pc' := 18) (dAt D63 10 rfl) rfl ?_
    refine e_iload_n (pc' := 19) (dAt D63 11 rfl) rfl rfl ?_
    refine e_iadd (pc' := 20) (dAt D63 12 rfl) rfl ?_
    obtain ⟨f1, h⟩ := h
    refine e_iaload (pc' := 21) (dAt D63 13 rfl) rfl (hT.arr hOx0 1 rfl (by decide)).1 (Or.inl (hT.arr hOx0 1 rfl (by decide)).2) f1 rfl ?_
    refine e_aload_n (pc' := 22) (dAt D63 14 rfl) rfl rfl ?_
    refine e_iload_n (pc' := 23) (dAt D63 15 rfl) rfl rfl ?_
    obtain ⟨f1, h⟩ := h
    refine e_iaload (pc' := 24) (dAt D63 16 rfl) rfl hAx2.1 (Or.inl hAx2.2) f1 rfl ?_
    refine e_icmp_eq (t := 29) (pc' := 27) (dAt D63 17 rfl) ⟨by decide, by decide⟩ rfl (fun c => ?_) (fun c => ?_)
    · replace h := h.1 c
      replace h := h _ rfl
      refine e_iinc (pc' := 32) (dAt D63 20 rfl) rfl rfl (Nat.le_of_ble_eq_true rfl) (congrArg (_ + ·) (show Int32.ofInt (1) = (1 : Int32) by decide)) rfl ?_
      refine e_goto (t := 2) (dAt D63 21 rfl) ⟨by decide, by decide⟩ ?_
      exact h
    · replace h := h.2 c
      refine e_iconst (pc' := 28) (v := 0) (dAt D63 18 rfl) rfl (by decide) ?_
      exact e_ireturn (dAt D63 19 rfl) rfl ⟨rfl, fun e => by cases e⟩ h
-- PlaceNets$Reach.spread.(LPlaceNets$Net;I)V, from 0
set_option maxRecDepth 20000 in
theorem bk64_0 {d b : Nat} {Q : Option Value → mMem → Prop} {m : mMem} {x0 : Nat} {x1 : Nat} {x2 : Int32} {x3 : Option Value} {x4 : Option Value} (hT : mWT m) (hOx0 : m.1 x0 = some (.inr 5) ∧ x0 ≠ 0) (hOx1 : m.1 x1 = some (.inr 2) ∧ x1 ≠ 0)
    (h : mEs d 64 b g64 (2, [some (.ref x0), some (.ref x1), some (.int x2), some (.int 0), x4], [], m) Q) :
    mEs d 64 b g64 (0, [some (.ref x0), some (.ref x1), some (.int x2), x3, x4], [], m) Q := by
  refine e_iconst (pc' := 1) (v := 0) (dAt D64 0 rfl) rfl (by decide) ?_
  refine e_istore_n (pc' := 2) (dAt D64 1 rfl) rfl (Nat.le_of_ble_eq_true rfl) rfl ?_
  exact h
-- PlaceNets$Reach.spread.(LPlaceNets$Net;I)V, from 2
set_option maxRecDepth 20000 in
theorem bk64_2 {d b : Nat} {Q : Option Value → mMem → Prop} {m : mMem} {x0 : Nat} {x1 : Nat} {x2 : Int32} {x3 : Int32} {x4 : Option Value} (hT : mWT m) (hOx0 : m.1 x0 = some (.inr 5) ∧ x0 ≠ 0) (hOx1 : m.1 x1 = some (.inr 2) ∧ x1 ≠ 0) (hd1 : 1 ≤ d)
    (h : ((((iF m x0 13) ≤ x3) → (Q none m)) ∧ (¬ ((iF m x0 13) ≤ x3) → (((¬ (iF m x0 2) = 0) → (Q none m)) ∧ (¬ (¬ (iF m x0 2) = 0) → ((mIn x2 300 = true) ∧ (((¬ (((m.2.2.1 (64 * x0 + 3) x2.toNatClampNeg) >>> (x3 &&& 31)) &&& 1) = 1) → (∀ (v_1 : Int32), v_1 = (x3 + 1) → mEs d 64 b g64 (2, [some (.ref x0), some (.ref x1), some (.int x2), some (.int v_1), x4], [], m) Q)) ∧ (¬ (¬ (((m.2.2.1 (64 * x0 + 3) x2.toNatClampNeg) >>> (x3 &&& 31)) &&& 1) = 1) → ((¬ (x2 * 10) < 0 ∧ ¬ (0 : Int32) < 0 ∧ ¬ (10 : Int32) < 0 ∧ (x2 * 10).toNatClampNeg + (10 : Int32).toNatClampNeg ≤ 3000 ∧ (0 : Int32).toNatClampNeg + (10 : Int32).toNatClampNeg ≤ 10) ∧ (∀ (m_2 : mMem), m_2 = (mSetI m (64 * x0 + 9) (va_cpy (m.2.2.1 (64 * x0 + 2)) (m.2.2.1 (64 * x0 + 9)) (x2 * 10).toNatClampNeg (0 : Int32).toNatClampNeg (10 : Int32).toNatClampNeg)) → mEv d 27 [.ref x1, .ref (64 * x0 + 9), .int x3] m_2 (fun r m' => mEs d 64 b g64 (58, [some (.ref x0), some (.ref x1), some (.int x2), some (.int x3), x4], r.toList ++ [], m') Q))))))))))) :
    mEs d 64 b g64 (2, [some (.ref x0), some (.ref x1), some (.int x2), some (.int x3), x4], [], m) Q := by
  refine e_iload_n (pc' := 3) (dAt D64 2 rfl) rfl rfl ?_
  refine e_aload_n (pc' := 4) (dAt D64 3 rfl) rfl rfl ?_
  refine e_getfield (pc' := 7) (dAt D64 4 rfl) rfl rfl hOx0 (hT.int hOx0 13 (by decide)) ?_
  refine e_icmp_ge (t := 107) (pc' := 10) (dAt D64 5 rfl) ⟨by decide, by decide⟩ rfl (fun c => ?_) (fun c => ?_)
  · replace h := h.1 c
    exact e_return (dAt D64 61 rfl) rfl h
  · replace h := h.2 c
    refine e_aload_n (pc' := 11) (dAt D64 6 rfl) rfl rfl ?_
    refine e_getfield (pc' := 14) (dAt D64 7 rfl) rfl rfl hOx0 (hT.int hOx0 2 (by decide)) ?_
    refine e_if_ne (t := 107) (pc' := 17) (dAt D64 8 rfl) ⟨by decide, by decide⟩ rfl (fun c => ?_) (fun c => ?_)
    · replace h := h.1 c
      exact e_return (dAt D64 61 rfl) rfl h
    · replace h := h.2 c
      refine e_aload_n (pc' := 18) (dAt D64 9 rfl) rfl rfl ?_
      refine e_getfield (pc' := 21) (dAt D64 10 rfl) rfl rfl hOx0 (hT.own hOx0 2 rfl) ?_
      refine e_iload_n (pc' := 22) (dAt D64 11 rfl) rfl rfl ?_
      obtain ⟨f1, h⟩ := h
      refine e_iaload (pc' := 23) (dAt D64 12 rfl) rfl (hT.arr hOx0 2 rfl (by decide)).1 (Or.inl (hT.arr hOx0 2 rfl (by decide)).2) f1 rfl ?_
      refine e_iload_n (pc' := 24) (dAt D64 13 rfl) rfl rfl ?_
      refine e_ishr (pc' := 25) (dAt D64 14 rfl) rfl ?_
      refine e_iconst (pc' := 26) (v := 1) (dAt D64 15 rfl) rfl (by decide) ?_
      refine e_iand (pc' := 27) (dAt D64 16 rfl) rfl ?_
      refine e_iconst (pc' := 28) (v := 1) (dAt D64 17 rfl) rfl (by decide) ?_
      refine e_icmp_ne (t := 101) (pc' := 31) (dAt D64 18 rfl) ⟨by decide, by decide⟩ rfl (fun c => ?_) (fun c => ?_)
      · replace h := h.1 c
        replace h := h _ rfl
        refine e_iinc (pc' := 104) (dAt D64 59 rfl) rfl rfl (Nat.le_of_ble_eq_true rfl) (congrArg (_ + ·) (show Int32.ofInt (1) = (1 : Int32) by decide)) rfl ?_
        refine e_goto (t := 2) (dAt D64 60 rfl) ⟨by decide, by decide⟩ ?_
        exact h
      · replace h := h.2 c
        refine e_aload_n (pc' := 32) (dAt D64 19 rfl) rfl rfl ?_
        refine e_getfield (pc' := 35) (dAt D64 20 rfl) rfl rfl hOx0 (hT.own hOx0 1 rfl) ?_
        refine e_iload_n (pc' := 36) (dAt D64 21 rfl) rfl rfl ?_
        refine e_bipush (pc' := 38) (v := 10) (dAt D64 22 rfl) rfl (by decide) ?_
        refine e_imul (pc' := 39) (dAt D64 23 rfl) rfl ?_
        refine e_aload_n (pc' := 40) (dAt D64 24 rfl) rfl rfl ?_
        refine e_getfield (pc' := 43) (dAt D64 25 rfl) rfl rfl hOx0 (hT.own hOx0 8 rfl) ?_
        refine e_iconst (pc' := 44) (v := 0) (dAt D64 26 rfl) rfl (by decide) ?_
        refine e_bipush (pc' := 46) (v := 10) (dAt D64 27 rfl) rfl (by decide) ?_
        obtain ⟨f1, h⟩ := h
        replace h := h _ rfl
        refine e_copy (pc' := 49) (dAt D64 28 rfl) rfl rfl (hT.arr hOx0 1 rfl (by decide)) (hT.arr hOx0 8 rfl (by decide)) f1 ⟨hd1, Nat.le_of_ble_eq_true rfl⟩ ?_
        refine wtI hT (fun hT_3 => ?_)
        refine e_aload_n (pc' := 50) (dAt D64 29 rfl) rfl rfl ?_
        refine e_aload_n (pc' := 51) (dAt D64 30 rfl) rfl rfl ?_
        refine e_getfield (pc' := 54) (dAt D64 31 rfl) rfl rfl hOx0 (hT_3.own hOx0 8 rfl) ?_
        refine e_iload_n (pc' := 55) (dAt D64 32 rfl) rfl rfl ?_
        exact e_call2 h (dAt D64 33 rfl) (hi0 rfl) rfl G27 (by decide) rfl (Nat.le_of_ble_eq_true rfl) (kV hOx1 rfl rfl) rfl rfl
-- PlaceNets$Reach.spread.(LPlaceNets$Net;I)V, from 58
set_option maxRecDepth 20000 in
theorem bk64_58 {d b : Nat} {Q : Option Value → mMem → Prop} {m : mMem} {x0 : Nat} {x1 : Nat} {x2 : Int32} {x3 : Int32} {x4 : Option Value} (hT : mWT m) (hOx0 : m.1 x0 = some (.inr 5) ∧ x0 ≠ 0) (hOx1 : m.1 x1 = some (.inr 2) ∧ x1 ≠ 0)
    (h : mEv d 65 [.ref x0, .ref (64 * x0 + 9)] m (fun r m' => mEs d 64 b g64 (66, [some (.ref x0), some (.ref x1), some (.int x2), some (.int x3), x4], r.toList ++ [], m') Q)) :
    mEs d 64 b g64 (58, [some (.ref x0), some (.ref x1), some (.int x2), some (.int x3), x4], [], m) Q := by
  refine e_aload_n (pc' := 59) (dAt D64 34 rfl) rfl rfl ?_
  refine e_aload_n (pc' := 60) (dAt D64 35 rfl) rfl rfl ?_
  refine e_getfield (pc' := 63) (dAt D64 36 rfl) rfl rfl hOx0 (hT.own hOx0 8 rfl) ?_
  exact e_call2 h (dAt D64 37 rfl) (hi0 rfl) rfl G65 (by decide) rfl (Nat.le_of_ble_eq_true rfl) (kV hOx0 rfl rfl) rfl rfl
-- PlaceNets$Reach.spread.(LPlaceNets$Net;I)V, from 66
set_option maxRecDepth 20000 in
theorem bk64_66 {d b : Nat} {Q : Option Value → mMem → Prop} {m : mMem} {x0 : Nat} {x1 : Nat} {x2 : Int32} {x3 : Int32} {x4 : Option Value} {y0 : Int32} (hT : mWT m) (hOx0 : m.1 x0 = some (.inr 5) ∧ x0 ≠ 0) (hOx1 : m.1 x1 = some (.inr 2) ∧ x1 ≠ 0)
    (h : (((¬ y0 = ((-1))) → ((mIn ((x2 * 10) + x3) 3000 = true) ∧ (∀ (m_1 : mMem), m_1 = (mSetI m (64 * x0 + 6) (upd (m.2.2.1 (64 * x0 + 6)) ((x2 * 10) + x3).toNatClampNeg y0)) → ∀ (v_3 : Int32), v_3 = (x3 + 1) → mEs d 64 b g64 (2, [some (.ref x0), some (.ref x1), some (.int x2), some (.int v_3), some (.int y0)], [], m_1) Q))) ∧ (¬ (¬ y0 = ((-1))) → (mEv d 61 [.ref x0, .ref x1, .ref (64 * x0 + 9), .int x2, .int x3] m (fun r m' => mEs d 64 b g64 (95, [some (.ref x0), some (.ref x1), some (.int x2), some (.int x3), some (.int y0)], r.toList ++ [.int ((x2 * 10) + x3), .ref (64 * x0 + 6)], m') Q))))) :
    mEs d 64 b g64 (66, [some (.ref x0), some (.ref x1), some (.int x2), some (.int x3), x4], [.int y0], m) Q := by
  refine e_istore (pc' := 68) (dAt D64 38 rfl) rfl (Nat.le_of_ble_eq_true rfl) rfl ?_
  refine e_aload_n (pc' := 69) (dAt D64 39 rfl) rfl rfl ?_
  refine e_getfield (pc' := 72) (dAt D64 40 rfl) rfl rfl hOx0 (hT.own hOx0 5 rfl) ?_
  refine e_iload_n (pc' := 73) (dAt D64 41 rfl) rfl rfl ?_
  refine e_bipush (pc' := 75) (v := 10) (dAt D64 42 rfl) rfl (by decide) ?_
  refine e_imul (pc' := 76) (dAt D64 43 rfl) rfl ?_
  refine e_iload_n (pc' := 77) (dAt D64 44 rfl) rfl rfl ?_
  refine e_iadd (pc' := 78) (dAt D64 45 rfl) rfl ?_
  refine e_iload (pc' := 80) (dAt D64 46 rfl) rfl rfl ?_
  refine e_iconst (pc' := 81) (v := (-1)) (dAt D64 47 rfl) rfl (by decide) ?_
  refine e_icmp_ne (t := 98) (pc' := 84) (dAt D64 48 rfl) ⟨by decide, by decide⟩ rfl (fun c => ?_) (fun c => ?_)
  · replace h := h.1 c
    refine e_iload (pc' := 100) (dAt D64 57 rfl) rfl rfl ?_
    obtain ⟨f1, h⟩ := h
    replace h := h _ rfl
    refine e_iastore (pc' := 101) (dAt D64 58 rfl) rfl (hT.arr hOx0 5 rfl (by decide)).1 (hT.arr hOx0 5 rfl (by decide)).2 f1 (nar_i _) ?_
    refine wtI hT (fun hT_2 => ?_)
    replace h := h _ rfl
    refine e_iinc (pc' := 104) (dAt D64 59 rfl) rfl rfl (Nat.le_of_ble_eq_true rfl) (congrArg (_ + ·) (show Int32.ofInt (1) = (1 : Int32) by decide)) rfl ?_
    refine e_goto (t := 2) (dAt D64 60 rfl) ⟨by decide, by decide⟩ ?_
    exact h
  · replace h := h.2 c
    refine e_aload_n (pc' := 85) (dAt D64 49 rfl) rfl rfl ?_
    refine e_aload_n (pc' := 86) (dAt D64 50 rfl) rfl rfl ?_
    refine e_aload_n (pc' := 87) (dAt D64 51 rfl) rfl rfl ?_
    refine e_getfield (pc' := 90) (dAt D64 52 rfl) rfl rfl hOx0 (hT.own hOx0 8 rfl) ?_
    refine e_iload_n (pc' := 91) (dAt D64 53 rfl) rfl rfl ?_
    refine e_iload_n (pc' := 92) (dAt D64 54 rfl) rfl rfl ?_
    exact e_call2 h (dAt D64 55 rfl) (hi0 rfl) rfl G61 (by decide) rfl (Nat.le_of_ble_eq_true rfl) (kV hOx0 rfl rfl) rfl rfl
-- PlaceNets$Reach.spread.(LPlaceNets$Net;I)V, from 95
set_option maxRecDepth 20000 in
theorem bk64_95 {d b : Nat} {Q : Option Value → mMem → Prop} {m : mMem} {x0 : Nat} {x1 : Nat} {x2 : Int32} {x3 : Int32} {x4 : Int32} {y0 : Nat} {ly0 : Nat} {y1 : Int32} {y2 : Int32} (hT : mWT m) (hOx0 : m.1 x0 = some (.inr 5) ∧ x0 ≠ 0) (hOx1 : m.1 x1 = some (.inr 2) ∧ x1 ≠ 0) (hAy0 : m.1 y0 = some (.inl (.int, ly0)) ∧ y0 ≠ 0)
    (h : (mIn y1 ly0 = true) ∧ (∀ (m_1 : mMem), m_1 = (mSetI m y0 (upd (m.2.2.1 y0) y1.toNatClampNeg y2)) → ∀ (v_3 : Int32), v_3 = (x3 + 1) → mEs d 64 b g64 (2, [some (.ref x0), some (.ref x1), some (.int x2), some (.int v_3), some (.int x4)], [], m_1) Q)) :
    mEs d 64 b g64 (95, [some (.ref x0), some (.ref x1), some (.int x2), some (.int x3), some (.int x4)], [.int y2, .int y1, .ref y0], m) Q := by
  refine e_goto (t := 100) (dAt D64 56 rfl) ⟨by decide, by decide⟩ ?_
  obtain ⟨f1, h⟩ := h
  replace h := h _ rfl
  refine e_iastore (pc' := 101) (dAt D64 58 rfl) rfl hAy0.1 hAy0.2 f1 (nar_i _) ?_
  refine wtI hT (fun hT_2 => ?_)
  replace h := h _ rfl
  refine e_iinc (pc' := 104) (dAt D64 59 rfl) rfl rfl (Nat.le_of_ble_eq_true rfl) (congrArg (_ + ·) (show Int32.ofInt (1) = (1 : Int32) by decide)) rfl ?_
  refine e_goto (t := 2) (dAt D64 60 rfl) ⟨by decide, by decide⟩ ?_
  exact h
-- PlaceNets$Reach.find.([I)I, from 0
set_option maxRecDepth 20000 in
theorem bk65_0 {d b : Nat} {Q : Option Value → mMem → Prop} {m : mMem} {x0 : Nat} {x1 : Nat} {lx1 : Nat} (hT : mWT m) (hOx0 : m.1 x0 = some (.inr 5) ∧ x0 ≠ 0) (hAx1 : m.1 x1 = some (.inl (.int, lx1)) ∧ x1 ≠ 0)
    (h : mEv d 62 [.ref x0, .ref x1] m (fun r m' => mEs d 65 b g65 (9, [some (.ref x0), some (.ref x1)], r.toList ++ [.ref (64 * x0 + 8)], m') Q)) :
    mEs d 65 b g65 (0, [some (.ref x0), some (.ref x1)], [], m) Q := by
  refine e_aload_n (pc' := 1) (dAt D65 0 rfl) rfl rfl ?_
  refine e_getfield (pc' := 4) (dAt D65 1 rfl) rfl rfl hOx0 (hT.own hOx0 7 rfl) ?_
  refine e_aload_n (pc' := 5) (dAt D65 2 rfl) rfl rfl ?_
  refine e_aload_n (pc' := 6) (dAt D65 3 rfl) rfl rfl ?_
  exact e_call2 h (dAt D65 4 rfl) (hi0 rfl) rfl G62 (by decide) rfl (Nat.le_of_ble_eq_true rfl) (kV hOx0 rfl rfl) rfl rfl
-- PlaceNets$Reach.find.([I)I, from 9
set_option maxRecDepth 20000 in
theorem bk65_9 {d b : Nat} {Q : Option Value → mMem → Prop} {m : mMem} {x0 : Nat} {x1 : Nat} {lx1 : Nat} {y0 : Nat} {ly0 : Nat} {y1 : Int32} (hT : mWT m) (hOx0 : m.1 x0 = some (.inr 5) ∧ x0 ≠ 0) (hAx1 : m.1 x1 = some (.inl (.int, lx1)) ∧ x1 ≠ 0) (hAy0 : m.1 y0 = some (.inl (.int, ly0)) ∧ y0 ≠ 0)
    (h : (mIn y1 ly0 = true) ∧ (Q (some (.int (m.2.2.1 y0 y1.toNatClampNeg))) m)) :
    mEs d 65 b g65 (9, [some (.ref x0), some (.ref x1)], [.int y1, .ref y0], m) Q := by
  obtain ⟨f1, h⟩ := h
  refine e_iaload (pc' := 10) (dAt D65 5 rfl) rfl hAy0.1 (Or.inl hAy0.2) f1 rfl ?_
  exact e_ireturn (dAt D65 6 rfl) rfl ⟨rfl, fun e => by cases e⟩ h
-- PlaceNets$Reach.lookAhead.()V, from 0
set_option maxRecDepth 20000 in
theorem bk66_0 {d b : Nat} {Q : Option Value → mMem → Prop} {m : mMem} {x0 : Nat} {x1 : Option Value} {x2 : Option Value} {x3 : Option Value} {x4 : Option Value} (hT : mWT m) (hOx0 : m.1 x0 = some (.inr 5) ∧ x0 ≠ 0)
    (h : mEs d 66 b g66 (2, [some (.ref x0), some (.int 0), x2, x3, x4], [], m) Q) :
    mEs d 66 b g66 (0, [some (.ref x0), x1, x2, x3, x4], [], m) Q := by
  refine e_iconst (pc' := 1) (v := 0) (dAt D66 0 rfl) rfl (by decide) ?_
  refine e_istore_n (pc' := 2) (dAt D66 1 rfl) rfl (Nat.le_of_ble_eq_true rfl) rfl ?_
  exact h
-- PlaceNets$Reach.lookAhead.()V, from 2
set_option maxRecDepth 20000 in
theorem bk66_2 {d b : Nat} {Q : Option Value → mMem → Prop} {m : mMem} {x0 : Nat} {x1 : Int32} {x2 : Option Value} {x3 : Option Value} {x4 : Option Value} (hT : mWT m) (hOx0 : m.1 x0 = some (.inr 5) ∧ x0 ≠ 0)
    (h : ((((iF m x0 1) ≤ x1) → (mEs d 66 b g66 (61, [some (.ref x0), some (.int 1), some (.int 0), x3, x4], [], m) Q)) ∧ (¬ ((iF m x0 1) ≤ x1) → ((mIn x1 300 = true) ∧ ((mIn x1 300 = true) ∧ (((¬ (m.2.2.1 (64 * x0 + 3) x1.toNatClampNeg) = 0) → (((¬ x1 = 0) → ((mIn x1 300 = true) ∧ (∀ (m_1 : mMem), m_1 = (mSetI m (64 * x0 + 7) (upd (m.2.2.1 (64 * x0 + 7)) x1.toNatClampNeg (((m.2.2.1 (64 * x0 + 3) x1.toNatClampNeg) ||| 0) ||| 0))) → ∀ (v_3 : Int32), v_3 = (x1 + 1) → mEs d 66 b g66 (2, [some (.ref x0), some (.int v_3), x2, x3, x4], [], m_1) Q))) ∧ (¬ (¬ x1 = 0) → ((mIn x1 300 = true) ∧ (∀ (m_4 : mMem), m_4 = (mSetI m (64 * x0 + 7) (upd (m.2.2.1 (64 * x0 + 7)) x1.toNatClampNeg (((m.2.2.1 (64 * x0 + 3) x1.toNatClampNeg) ||| 0) ||| 1024))) → ∀ (v_6 : Int32), v_6 = (x1 + 1) → mEs d 66 b g66 (2, [some (.ref x0), some (.int v_6), x2, x3, x4], [], m_4) Q))))) ∧ (¬ (¬ (m.2.2.1 (64 * x0 + 3) x1.toNatClampNeg) = 0) → (((¬ x1 = 0) → ((mIn x1 300 = true) ∧ (∀ (m_7 : mMem), m_7 = (mSetI m (64 * x0 + 7) (upd (m.2.2.1 (64 * x0 + 7)) x1.toNatClampNeg (((m.2.2.1 (64 * x0 + 3) x1.toNatClampNeg) ||| 2048) ||| 0))) → ∀ (v_9 : Int32), v_9 = (x1 + 1) → mEs d 66 b g66 (2, [some (.ref x0), some (.int v_9), x2, x3, x4], [], m_7) Q))) ∧ (¬ (¬ x1 = 0) → ((mIn x1 300 = true) ∧ (∀ (m_10 : mMem), m_10 = (mSetI m (64 * x0 + 7) (upd (m.2.2.1 (64 * x0 + 7)) x1.toNatClampNeg (((m.2.2.1 (64 * x0 + 3) x1.toNatClampNeg) ||| 2048) ||| 1024))) → ∀ (v_12 : Int32), v_12 = (x1 + 1) → mEs d 66 b g66 (2, [some (.ref x0), some (.int v_12), x2, x3, x4], [], m_10) Q))))))))))) :
    mEs d 66 b g66 (2, [some (.ref x0), some (.int x1), x2, x3, x4], [], m) Q := by
  refine e_iload_n (pc' := 3) (dAt D66 2 rfl) rfl rfl ?_
  refine e_aload_n (pc' := 4) (dAt D66 3 rfl) rfl rfl ?_
  refine e_getfield (pc' := 7) (dAt D66 4 rfl) rfl rfl hOx0 (hT.int hOx0 1 (by decide)) ?_
  refine e_icmp_ge (t := 57) (pc' := 10) (dAt D66 5 rfl) ⟨by decide, by decide⟩ rfl (fun c => ?_) (fun c => ?_)
  · replace h := h.1 c
    refine e_iconst (pc' := 58) (v := 1) (dAt D66 31 rfl) rfl (by decide) ?_
    refine e_istore_n (pc' := 59) (dAt D66 32 rfl) rfl (Nat.le_of_ble_eq_true rfl) rfl ?_
    refine e_iconst (pc' := 60) (v := 0) (dAt D66 33 rfl) rfl (by decide) ?_
    refine e_istore_n (pc' := 61) (dAt D66 34 rfl) rfl (Nat.le_of_ble_eq_true rfl) rfl ?_
    exact h
  · replace h := h.2 c
    refine e_aload_n (pc' := 11) (dAt D66 6 rfl) rfl rfl ?_
    refine e_getfield (pc' := 14) (dAt D66 7 rfl) rfl rfl hOx0 (hT.own hOx0 6 rfl) ?_
    refine e_iload_n (pc' := 15) (dAt D66 8 rfl) rfl rfl ?_
    refine e_aload_n (pc' := 16) (dAt D66 9 rfl) rfl rfl ?_
    refine e_getfield (pc' := 19) (dAt D66 10 rfl) rfl rfl hOx0 (hT.own hOx0 2 rfl) ?_
    refine e_iload_n (pc' := 20) (dAt D66 11 rfl) rfl rfl ?_
    obtain ⟨f1, h⟩ := h
    refine e_iaload (pc' := 21) (dAt D66 12 rfl) rfl (hT.arr hOx0 2 rfl (by decide)).1 (Or.inl (hT.arr hOx0 2 rfl (by decide)).2) f1 rfl ?_
    refine e_aload_n (pc' := 22) (dAt D66 13 rfl) rfl rfl ?_
    refine e_getfield (pc' := 25) (dAt D66 14 rfl) rfl rfl hOx0 (hT.own hOx0 2 rfl) ?_
    refine e_iload_n (pc' := 26) (dAt D66 15 rfl) rfl rfl ?_
    obtain ⟨f1, h⟩ := h
    refine e_iaload (pc' := 27) (dAt D66 16 rfl) rfl (hT.arr hOx0 2 rfl (by decide)).1 (Or.inl (hT.arr hOx0 2 rfl (by decide)).2) f1 rfl ?_
    refine e_if_ne (t := 36) (pc' := 30) (dAt D66 17 rfl) ⟨by decide, by decide⟩ rfl (fun c => ?_) (fun c => ?_)
    · replace h := h.1 c
      refine e_iconst (pc' := 37) (v := 0) (dAt D66 20 rfl) rfl (by decide) ?_
      refine e_ior (pc' := 38) (dAt D66 21 rfl) rfl ?_
      refine e_iload_n (pc' := 39) (dAt D66 22 rfl) rfl rfl ?_
      refine e_if_ne (t := 48) (pc' := 42) (dAt D66 23 rfl) ⟨by decide, by decide⟩ rfl (fun c => ?_) (fun c => ?_)
      · replace h := h.1 c
        refine e_iconst (pc' := 49) (v := 0) (dAt D66 26 rfl) rfl (by decide) ?_
        refine e_ior (pc' := 50) (dAt D66 27 rfl) rfl ?_
        obtain ⟨f1, h⟩ := h
        replace h := h _ rfl
        refine e_iastore (pc' := 51) (dAt D66 28 rfl) rfl (hT.arr hOx0 6 rfl (by decide)).1 (hT.arr hOx0 6 rfl (by decide)).2 f1 (nar_i _) ?_
        refine wtI hT (fun hT_2 => ?_)
        replace h := h _ rfl
        refine e_iinc (pc' := 54) (dAt D66 29 rfl) rfl rfl (Nat.le_of_ble_eq_true rfl) (congrArg (_ + ·) (show Int32.ofInt (1) = (1 : Int32) by decide)) rfl ?_
        refine e_goto (t := 2) (dAt D66 30 rfl) ⟨by decide, by decide⟩ ?_
        exact h
      · replace h := h.2 c
        refine e_sipush (pc' := 45) (v := 1024) (dAt D66 24 rfl) rfl (by decide) ?_
        refine e_goto (t := 49) (dAt D66 25 rfl) ⟨by decide, by decide⟩ ?_
        refine e_ior (pc' := 50) (dAt D66 27 rfl) rfl ?_
        obtain ⟨f1, h⟩ := h
        replace h := h _ rfl
        refine e_iastore (pc' := 51) (dAt D66 28 rfl) rfl (hT.arr hOx0 6 rfl (by decide)).1 (hT.arr hOx0 6 rfl (by decide)).2 f1 (nar_i _) ?_
        refine wtI hT (fun hT_5 => ?_)
        replace h := h _ rfl
        refine e_iinc (pc' := 54) (dAt D66 29 rfl) rfl rfl (Nat.le_of_ble_eq_true rfl) (congrArg (_ + ·) (show Int32.ofInt (1) = (1 : Int32) by decide)) rfl ?_
        refine e_goto (t := 2) (dAt D66 30 rfl) ⟨by decide, by decide⟩ ?_
        exact h
    · replace h := h.2 c
      refine e_sipush (pc' := 33) (v := 2048) (dAt D66 18 rfl) rfl (by decide) ?_
      refine e_goto (t := 37) (dAt D66 19 rfl) ⟨by decide, by decide⟩ ?_
      refine e_ior (pc' := 38) (dAt D66 21 rfl) rfl ?_
      refine e_iload_n (pc' := 39) (dAt D66 22 rfl) rfl rfl ?_
      refine e_if_ne (t := 48) (pc' := 42) (dAt D66 23 rfl) ⟨by decide, by decide⟩ rfl (fun c => ?_) (fun c => ?_)
      · replace h := h.1 c
        refine e_iconst (pc' := 49) (v := 0) (dAt D66 26 rfl) rfl (by decide) ?_
        refine e_ior (pc' := 50) (dAt D66 27 rfl) rfl ?_
        obtain ⟨f1, h⟩ := h
        replace h := h _ rfl
        refine e_iastore (pc' := 51) (dAt D66 28 rfl) rfl (hT.arr hOx0 6 rfl (by decide)).1 (hT.arr hOx0 6 rfl (by decide)).2 f1 (nar_i _) ?_
        refine wtI hT (fun hT_8 => ?_)
        replace h := h _ rfl
        refine e_iinc (pc' := 54) (dAt D66 29 rfl) rfl rfl (Nat.le_of_ble_eq_true rfl) (congrArg (_ + ·) (show Int32.ofInt (1) = (1 : Int32) by decide)) rfl ?_
        refine e_goto (t := 2) (dAt D66 30 rfl) ⟨by decide, by decide⟩ ?_
        exact h
      · replace h := h.2 c
        refine e_sipush (pc' := 45) (v := 1024) (dAt D66 24 rfl) rfl (by decide) ?_
        refine e_goto (t := 49) (dAt D66 25 rfl) ⟨by decide, by decide⟩ ?_
        refine e_ior (pc' := 50) (dAt D66 27 rfl) rfl ?_
        obtain ⟨f1, h⟩ := h
        replace h := h _ rfl
        refine e_iastore (pc' := 51) (dAt D66 28 rfl) rfl (hT.arr hOx0 6 rfl (by decide)).1 (hT.arr hOx0 6 rfl (by decide)).2 f1 (nar_i _) ?_
        refine wtI hT (fun hT_11 => ?_)
        replace h := h _ rfl
        refine e_iinc (pc' := 54) (dAt D66 29 rfl) rfl rfl (Nat.le_of_ble_eq_true rfl) (congrArg (_ + ·) (show Int32.ofInt (1) = (1 : Int32) by decide)) rfl ?_
        refine e_goto (t := 2) (dAt D66 30 rfl) ⟨by decide, by decide⟩ ?_
        exact h
-- PlaceNets$Reach.lookAhead.()V, from 61
set_option maxRecDepth 20000 in
theorem bk66_61 {d b : Nat} {Q : Option Value → mMem → Prop} {m : mMem} {x0 : Nat} {x1 : Int32} {x2 : Int32} {x3 : Option Value} {x4 : Option Value} (hT : mWT m) (hOx0 : m.1 x0 = some (.inr 5) ∧ x0 ≠ 0)
    (h : ((((iF m x0 1) < x2) → (Q none m)) ∧ (¬ ((iF m x0 1) < x2) → (((x1 = 0) → (Q none m)) ∧ (¬ (x1 = 0) → (∀ (v_1 : Int32), v_1 = ((iF m x0 1) - 1) → mEs d 66 b g66 (82, [some (.ref x0), some (.int 0), some (.int x2), some (.int v_1), x4], [], m) Q)))))) :
    mEs d 66 b g66 (61, [some (.ref x0), some (.int x1), some (.int x2), x3, x4], [], m) Q := by
  refine e_iload_n (pc' := 62) (dAt D66 35 rfl) rfl rfl ?_
  refine e_aload_n (pc' := 63) (dAt D66 36 rfl) rfl rfl ?_
  refine e_getfield (pc' := 66) (dAt D66 37 rfl) rfl rfl hOx0 (hT.int hOx0 1 (by decide)) ?_
  refine e_icmp_gt (t := 141) (pc' := 69) (dAt D66 38 rfl) ⟨by decide, by decide⟩ rfl (fun c => ?_) (fun c => ?_)
  · replace h := h.1 c
    exact e_return (dAt D66 80 rfl) rfl h
  · replace h := h.2 c
    refine e_iload_n (pc' := 70) (dAt D66 39 rfl) rfl rfl ?_
    refine e_if_eq (t := 141) (pc' := 73) (dAt D66 40 rfl) ⟨by decide, by decide⟩ rfl (fun c => ?_) (fun c => ?_)
    · replace h := h.1 c
      exact e_return (dAt D66 80 rfl) rfl h
    · replace h := h.2 c
      refine e_iconst (pc' := 74) (v := 0) (dAt D66 41 rfl) rfl (by decide) ?_
      refine e_istore_n (pc' := 75) (dAt D66 42 rfl) rfl (Nat.le_of_ble_eq_true rfl) rfl ?_
      refine e_aload_n (pc' := 76) (dAt D66 43 rfl) rfl rfl ?_
      refine e_getfield (pc' := 79) (dAt D66 44 rfl) rfl rfl hOx0 (hT.int hOx0 1 (by decide)) ?_
      refine e_iconst (pc' := 80) (v := 1) (dAt D66 45 rfl) rfl (by decide) ?_
      refine e_isub (pc' := 81) (dAt D66 46 rfl) rfl ?_
      replace h := h _ rfl
      refine e_istore_n (pc' := 82) (dAt D66 47 rfl) rfl (Nat.le_of_ble_eq_true rfl) rfl ?_
      exact h
-- PlaceNets$Reach.lookAhead.()V, from 82
set_option maxRecDepth 20000 in
theorem bk66_82 {d b : Nat} {Q : Option Value → mMem → Prop} {m : mMem} {x0 : Nat} {x1 : Int32} {x2 : Int32} {x3 : Int32} {x4 : Option Value} (hT : mWT m) (hOx0 : m.1 x0 = some (.inr 5) ∧ x0 ≠ 0)
    (h : (((x3 < 0) → (∀ (v_1 : Int32), v_1 = (x2 + 1) → mEs d 66 b g66 (61, [some (.ref x0), some (.int x1), some (.int v_1), some (.int x3), x4], [], m) Q)) ∧ (¬ (x3 < 0) → ((mIn x3 300 = true) ∧ (mEv d 67 [.ref x0, .int x3] m (fun r m' => mEs d 66 b g66 (97, [some (.ref x0), some (.int x1), some (.int x2), some (.int x3), x4], r.toList ++ [.int (m.2.2.1 (64 * x0 + 7) x3.toNatClampNeg)], m') Q)))))) :
    mEs d 66 b g66 (82, [some (.ref x0), some (.int x1), some (.int x2), some (.int x3), x4], [], m) Q := by
  refine e_iload_n (pc' := 83) (dAt D66 48 rfl) rfl rfl ?_
  refine e_if_lt (t := 135) (pc' := 86) (dAt D66 49 rfl) ⟨by decide, by decide⟩ rfl (fun c => ?_) (fun c => ?_)
  · replace h := h.1 c
    replace h := h _ rfl
    refine e_iinc (pc' := 138) (dAt D66 78 rfl) rfl rfl (Nat.le_of_ble_eq_true rfl) (congrArg (_ + ·) (show Int32.ofInt (1) = (1 : Int32) by decide)) rfl ?_
    refine e_goto (t := 61) (dAt D66 79 rfl) ⟨by decide, by decide⟩ ?_
    exact h
  · replace h := h.2 c
    refine e_aload_n (pc' := 87) (dAt D66 50 rfl) rfl rfl ?_
    refine e_getfield (pc' := 90) (dAt D66 51 rfl) rfl rfl hOx0 (hT.own hOx0 6 rfl) ?_
    refine e_iload_n (pc' := 91) (dAt D66 52 rfl) rfl rfl ?_
    obtain ⟨f1, h⟩ := h
    refine e_iaload (pc' := 92) (dAt D66 53 rfl) rfl (hT.arr hOx0 6 rfl (by decide)).1 (Or.inl (hT.arr hOx0 6 rfl (by decide)).2) f1 rfl ?_
    refine e_aload_n (pc' := 93) (dAt D66 54 rfl) rfl rfl ?_
    refine e_iload_n (pc' := 94) (dAt D66 55 rfl) rfl rfl ?_
    exact e_call2 h (dAt D66 56 rfl) (hi0 rfl) rfl G67 (by decide) rfl (Nat.le_of_ble_eq_true rfl) (kV hOx0 rfl rfl) rfl rfl
-- PlaceNets$Reach.lookAhead.()V, from 97
set_option maxRecDepth 20000 in
theorem bk66_97 {d b : Nat} {Q : Option Value → mMem → Prop} {m : mMem} {x0 : Nat} {x1 : Int32} {x2 : Int32} {x3 : Int32} {x4 : Option Value} {y0 : Int32} {y1 : Int32} (hT : mWT m) (hOx0 : m.1 x0 = some (.inr 5) ∧ x0 ≠ 0)
    (h : ∀ (v_1 : Int32), v_1 = (y0 ||| y1) → (((¬ x1 = 0) → ((mIn x3 300 = true) ∧ (∀ (m_2 : mMem), m_2 = (mSetI m (64 * x0 + 7) (upd (m.2.2.1 (64 * x0 + 7)) x3.toNatClampNeg v_1)) → ∀ (v_4 : Int32), v_4 = (x3 + (-1)) → mEs d 66 b g66 (82, [some (.ref x0), some (.int 1), some (.int x2), some (.int v_4), some (.int v_1)], [], m_2) Q))) ∧ (¬ (¬ x1 = 0) → ((mIn x3 300 = true) ∧ (((v_1 = (m.2.2.1 (64 * x0 + 7) x3.toNatClampNeg)) → ((mIn x3 300 = true) ∧ (∀ (m_5 : mMem), m_5 = (mSetI m (64 * x0 + 7) (upd (m.2.2.1 (64 * x0 + 7)) x3.toNatClampNeg v_1)) → ∀ (v_7 : Int32), v_7 = (x3 + (-1)) → mEs d 66 b g66 (82, [some (.ref x0), some (.int 0), some (.int x2), some (.int v_7), some (.int v_1)], [], m_5) Q))) ∧ (¬ (v_1 = (m.2.2.1 (64 * x0 + 7) x3.toNatClampNeg)) → ((mIn x3 300 = true) ∧ (∀ (m_8 : mMem), m_8 = (mSetI m (64 * x0 + 7) (upd (m.2.2.1 (64 * x0 + 7)) x3.toNatClampNeg v_1)) → ∀ (v_10 : Int32), v_10 = (x3 + (-1)) → mEs d 66 b g66 (82, [some (.ref x0), some (.int 1), some (.int x2), some (.int v_10), some (.int v_1)], [], m_8) Q)))))))) :
    mEs d 66 b g66 (97, [some (.ref x0), some (.int x1), some (.int x2), some (.int x3), x4], [.int y1, .int y0], m) Q := by
  refine e_ior (pc' := 98) (dAt D66 57 rfl) rfl ?_
  replace h := h _ rfl
  refine e_istore (pc' := 100) (dAt D66 58 rfl) rfl (Nat.le_of_ble_eq_true rfl) rfl ?_
  refine e_iload_n (pc' := 101) (dAt D66 59 rfl) rfl rfl ?_
  refine e_if_ne (t := 115) (pc' := 104) (dAt D66 60 rfl) ⟨by decide, by decide⟩ rfl (fun c => ?_) (fun c => ?_)
  · replace h := h.1 c
    refine e_iconst (pc' := 116) (v := 1) (dAt D66 67 rfl) rfl (by decide) ?_
    refine e_goto (t := 120) (dAt D66 68 rfl) ⟨by decide, by decide⟩ ?_
    refine e_istore_n (pc' := 121) (dAt D66 70 rfl) rfl (Nat.le_of_ble_eq_true rfl) rfl ?_
    refine e_aload_n (pc' := 122) (dAt D66 71 rfl) rfl rfl ?_
    refine e_getfield (pc' := 125) (dAt D66 72 rfl) rfl rfl hOx0 (hT.own hOx0 6 rfl) ?_
    refine e_iload_n (pc' := 126) (dAt D66 73 rfl) rfl rfl ?_
    refine e_iload (pc' := 128) (dAt D66 74 rfl) rfl rfl ?_
    obtain ⟨f1, h⟩ := h
    replace h := h _ rfl
    refine e_iastore (pc' := 129) (dAt D66 75 rfl) rfl (hT.arr hOx0 6 rfl (by decide)).1 (hT.arr hOx0 6 rfl (by decide)).2 f1 (nar_i _) ?_
    refine wtI hT (fun hT_3 => ?_)
    replace h := h _ rfl
    refine e_iinc (pc' := 132) (dAt D66 76 rfl) rfl rfl (Nat.le_of_ble_eq_true rfl) (congrArg (_ + ·) (show Int32.ofInt (-1) = (-1 : Int32) by decide)) rfl ?_
    refine e_goto (t := 82) (dAt D66 77 rfl) ⟨by decide, by decide⟩ ?_
    exact h
  · replace h := h.2 c
    refine e_iload (pc' := 106) (dAt D66 61 rfl) rfl rfl ?_
    refine e_aload_n (pc' := 107) (dAt D66 62 rfl) rfl rfl ?_
    refine e_getfield (pc' := 110) (dAt D66 63 rfl) rfl rfl hOx0 (hT.own hOx0 6 rfl) ?_
    refine e_iload_n (pc' := 111) (dAt D66 64 rfl) rfl rfl ?_
    obtain ⟨f1, h⟩ := h
    refine e_iaload (pc' := 112) (dAt D66 65 rfl) rfl (hT.arr hOx0 6 rfl (by decide)).1 (Or.inl (hT.arr hOx0 6 rfl (by decide)).2) f1 rfl ?_
    refine e_icmp_eq (t := 119) (pc' := 115) (dAt D66 66 rfl) ⟨by decide, by decide⟩ rfl (fun c => ?_) (fun c => ?_)
    · replace h := h.1 c
      refine e_iconst (pc' := 120) (v := 0) (dAt D66 69 rfl) rfl (by decide) ?_
      refine e_istore_n (pc' := 121) (dAt D66 70 rfl) rfl (Nat.le_of_ble_eq_true rfl) rfl ?_
      refine e_aload_n (pc' := 122) (dAt D66 71 rfl) rfl rfl ?_
      refine e_getfield (pc' := 125) (dAt D66 72 rfl) rfl rfl hOx0 (hT.own hOx0 6 rfl) ?_
      refine e_iload_n (pc' := 126) (dAt D66 73 rfl) rfl rfl ?_
      refine e_iload (pc' := 128) (dAt D66 74 rfl) rfl rfl ?_
      obtain ⟨f1, h⟩ := h
      replace h := h _ rfl
      refine e_iastore (pc' := 129) (dAt D66 75 rfl) rfl (hT.arr hOx0 6 rfl (by decide)).1 (hT.arr hOx0 6 rfl (by decide)).2 f1 (nar_i _) ?_
      refine wtI hT (fun hT_6 => ?_)
      replace h := h _ rfl
      refine e_iinc (pc' := 132) (dAt D66 76 rfl) rfl rfl (Nat.le_of_ble_eq_true rfl) (congrArg (_ + ·) (show Int32.ofInt (-1) = (-1 : Int32) by decide)) rfl ?_
      refine e_goto (t := 82) (dAt D66 77 rfl) ⟨by decide, by decide⟩ ?_
      exact h
    · replace h := h.2 c
      refine e_iconst (pc' := 116) (v := 1) (dAt D66 67 rfl) rfl (by decide) ?_
      refine e_goto (t := 120) (dAt D66 68 rfl) ⟨by decide, by decide⟩ ?_
      refine e_istore_n (pc' := 121) (dAt D66 70 rfl) rfl (Nat.le_of_ble_eq_true rfl) rfl ?_
      refine e_aload_n (pc' := 122) (dAt D66 71 rfl) rfl rfl ?_
      refine e_getfield (pc' := 125) (dAt D66 72 rfl) rfl rfl hOx0 (hT.own hOx0 6 rfl) ?_
      refine e_iload_n (pc' := 126) (dAt D66 73 rfl) rfl rfl ?_
      refine e_iload (pc' := 128) (dAt D66 74 rfl) rfl rfl ?_
      obtain ⟨f1, h⟩ := h
      replace h := h _ rfl
      refine e_iastore (pc' := 129) (dAt D66 75 rfl) rfl (hT.arr hOx0 6 rfl (by decide)).1 (hT.arr hOx0 6 rfl (by decide)).2 f1 (nar_i _) ?_
      refine wtI hT (fun hT_9 => ?_)
      replace h := h _ rfl
      refine e_iinc (pc' := 132) (dAt D66 76 rfl) rfl rfl (Nat.le_of_ble_eq_true rfl) (congrArg (_ + ·) (show Int32.ofInt (-1) = (-1 : Int32) by decide)) rfl ?_
      refine e_goto (t := 82) (dAt D66 77 rfl) ⟨by decide, by decide⟩ ?_
      exact h
-- PlaceNets$Reach.aheadOfNext.(I)I, from 0
set_option maxRecDepth 20000 in
theorem bk67_0 {d b : Nat} {Q : Option Value → mMem → Prop} {m : mMem} {x0 : Nat} {x1 : Int32} {x2 : Option Value} {x3 : Option Value} (hT : mWT m) (hOx0 : m.1 x0 = some (.inr 5) ∧ x0 ≠ 0)
    (h : mEs d 67 b g67 (4, [some (.ref x0), some (.int x1), some (.int 0), some (.int 0)], [], m) Q) :
    mEs d 67 b g67 (0, [some (.ref x0), some (.int x1), x2, x3], [], m) Q := by
  refine e_iconst (pc' := 1) (v := 0) (dAt D67 0 rfl) rfl (by decide) ?_
  refine e_istore_n (pc' := 2) (dAt D67 1 rfl) rfl (Nat.le_of_ble_eq_true rfl) rfl ?_
  refine e_iconst (pc' := 3) (v := 0) (dAt D67 2 rfl) rfl (by decide) ?_
  refine e_istore_n (pc' := 4) (dAt D67 3 rfl) rfl (Nat.le_of_ble_eq_true rfl) rfl ?_
  exact h
-- PlaceNets$Reach.aheadOfNext.(I)I, from 4
set_option maxRecDepth 20000 in
theorem bk67_4 {d b : Nat} {Q : Option Value → mMem → Prop} {m : mMem} {x0 : Nat} {x1 : Int32} {x2 : Int32} {x3 : Int32} (hT : mWT m) (hOx0 : m.1 x0 = some (.inr 5) ∧ x0 ≠ 0)
    (h : ((((iF m x0 13) ≤ x3) → (Q (some (.int x2)) m)) ∧ (¬ ((iF m x0 13) ≤ x3) → ((mIn x1 300 = true) ∧ (((¬ (((m.2.2.1 (64 * x0 + 3) x1.toNatClampNeg) >>> (x3 &&& 31)) &&& 1) = 1) → (∀ (v_1 : Int32), v_1 = (x3 + 1) → mEs d 67 b g67 (4, [some (.ref x0), some (.int x1), some (.int x2), some (.int v_1)], [], m) Q)) ∧ (¬ (¬ (((m.2.2.1 (64 * x0 + 3) x1.toNatClampNeg) >>> (x3 &&& 31)) &&& 1) = 1) → ((mIn ((x1 * 10) + x3) 3000 = true) ∧ ((mIn (m.2.2.1 (64 * x0 + 6) ((x1 * 10) + x3).toNatClampNeg) 300 = true) ∧ (∀ (v_2 : Int32), v_2 = (x2 ||| (m.2.2.1 (64 * x0 + 7) (m.2.2.1 (64 * x0 + 6) ((x1 * 10) + x3).toNatClampNeg).toNatClampNeg)) → ∀ (v_3 : Int32), v_3 = (x3 + 1) → mEs d 67 b g67 (4, [some (.ref x0), some (.int x1), some (.int v_2), some (.int v_3)], [], m) Q))))))))) :
    mEs d 67 b g67 (4, [some (.ref x0), some (.int x1), some (.int x2), some (.int x3)], [], m) Q := by
  refine e_iload_n (pc' := 5) (dAt D67 4 rfl) rfl rfl ?_
  refine e_aload_n (pc' := 6) (dAt D67 5 rfl) rfl rfl ?_
  refine e_getfield (pc' := 9) (dAt D67 6 rfl) rfl rfl hOx0 (hT.int hOx0 13 (by decide)) ?_
  refine e_icmp_ge (t := 51) (pc' := 12) (dAt D67 7 rfl) ⟨by decide, by decide⟩ rfl (fun c => ?_) (fun c => ?_)
  · replace h := h.1 c
    refine e_iload_n (pc' := 52) (dAt D67 34 rfl) rfl rfl ?_
    exact e_ireturn (dAt D67 35 rfl) rfl ⟨rfl, fun e => by cases e⟩ h
  · replace h := h.2 c
    refine e_aload_n (pc' := 13) (dAt D67 8 rfl) rfl rfl ?_
    refine e_getfield (pc' := 16) (dAt D67 9 rfl) rfl rfl hOx0 (hT.own hOx0 2 rfl) ?_
    refine e_iload_n (pc' := 17) (dAt D67 10 rfl) rfl rfl ?_
    obtain ⟨f1, h⟩ := h
    refine e_iaload (pc' := 18) (dAt D67 11 rfl) rfl (hT.arr hOx0 2 rfl (by decide)).1 (Or.inl (hT.arr hOx0 2 rfl (by decide)).2) f1 rfl ?_
    refine e_iload_n (pc' := 19) (dAt D67 12 rfl) rfl rfl ?_
    refine e_ishr (pc' := 20) (dAt D67 13 rfl) rfl ?_
    refine e_iconst (pc' := 21) (v := 1) (dAt D67 14 rfl) rfl (by decide) ?_
    refine e_iand (pc' := 22) (dAt D67 15 rfl) rfl ?_
    refine e_iconst (pc' := 23) (v := 1) (dAt D67 16 rfl) rfl (by decide) ?_
    refine e_icmp_ne (t := 45) (pc' := 26) (dAt D67 17 rfl) ⟨by decide, by decide⟩ rfl (fun c => ?_) (fun c => ?_)
    · replace h := h.1 c
      replace h := h _ rfl
      refine e_iinc (pc' := 48) (dAt D67 32 rfl) rfl rfl (Nat.le_of_ble_eq_true rfl) (congrArg (_ + ·) (show Int32.ofInt (1) = (1 : Int32) by decide)) rfl ?_
      refine e_goto (t := 4) (dAt D67 33 rfl) ⟨by decide, by decide⟩ ?_
      exact h
    · replace h := h.2 c
      refine e_iload_n (pc' := 27) (dAt D67 18 rfl) rfl rfl ?_
      refine e_aload_n (pc' := 28) (dAt D67 19 rfl) rfl rfl ?_
      refine e_getfield (pc' := 31) (dAt D67 20 rfl) rfl rfl hOx0 (hT.own hOx0 6 rfl) ?_
      refine e_aload_n (pc' := 32) (dAt D67 21 rfl) rfl rfl ?_
      refine e_getfield (pc' := 35) (dAt D67 22 rfl) rfl rfl hOx0 (hT.own hOx0 5 rfl) ?_
      refine e_iload_n (pc' := 36) (dAt D67 23 rfl) rfl rfl ?_
      refine e_bipush (pc' := 38) (v := 10) (dAt D67 24 rfl) rfl (by decide) ?_
      refine e_imul (pc' := 39) (dAt D67 25 rfl) rfl ?_
      refine e_iload_n (pc' := 40) (dAt D67 26 rfl) rfl rfl ?_
      refine e_iadd (pc' := 41) (dAt D67 27 rfl) rfl ?_
      obtain ⟨f1, h⟩ := h
      refine e_iaload (pc' := 42) (dAt D67 28 rfl) rfl (hT.arr hOx0 5 rfl (by decide)).1 (Or.inl (hT.arr hOx0 5 rfl (by decide)).2) f1 rfl ?_
      obtain ⟨f1, h⟩ := h
      refine e_iaload (pc' := 43) (dAt D67 29 rfl) rfl (hT.arr hOx0 6 rfl (by decide)).1 (Or.inl (hT.arr hOx0 6 rfl (by decide)).2) f1 rfl ?_
      refine e_ior (pc' := 44) (dAt D67 30 rfl) rfl ?_
      replace h := h _ rfl
      refine e_istore_n (pc' := 45) (dAt D67 31 rfl) rfl (Nat.le_of_ble_eq_true rfl) rfl ?_
      replace h := h _ rfl
      refine e_iinc (pc' := 48) (dAt D67 32 rfl) rfl rfl (Nat.le_of_ble_eq_true rfl) (congrArg (_ + ·) (show Int32.ofInt (1) = (1 : Int32) by decide)) rfl ?_
      refine e_goto (t := 4) (dAt D67 33 rfl) ⟨by decide, by decide⟩ ?_
      exact h
-- PlaceNets$Reach.tell.(II)I, from 0
set_option maxRecDepth 20000 in
theorem bk68_0 {d b : Nat} {Q : Option Value → mMem → Prop} {m : mMem} {x0 : Nat} {x1 : Int32} {x2 : Int32} (hT : mWT m) (hOx0 : m.1 x0 = some (.inr 5) ∧ x0 ≠ 0)
    (h : (((x1 < 0) → (Q (some (.int ((-1)))) m)) ∧ (¬ (x1 < 0) → (((x1 < (iF m x0 1)) → ((x2 = 10 → ((mIn x1 300 = true) ∧ (Q (some (.int (m.2.2.1 (64 * x0 + 3) x1.toNatClampNeg))) m))) ∧ (¬ x2 = 10 → ((x2 = 11 → ((mIn x1 300 = true) ∧ (Q (some (.int (m.2.2.1 (64 * x0 + 1) x1.toNatClampNeg))) m))) ∧ (¬ x2 = 11 → (((x2 < 0) → (Q (some (.int ((-1)))) m)) ∧ (¬ (x2 < 0) → ((((iF m x0 12) ≤ x2) → (Q (some (.int ((-1)))) m)) ∧ (¬ ((iF m x0 12) ≤ x2) → ((mIn ((x1 * 10) + x2) 3000 = true) ∧ (Q (some (.int (m.2.2.1 (64 * x0 + 2) ((x1 * 10) + x2).toNatClampNeg))) m))))))))))) ∧ (¬ (x1 < (iF m x0 1)) → (Q (some (.int ((-1)))) m)))))) :
    mEs d 68 b g68 (0, [some (.ref x0), some (.int x1), some (.int x2)], [], m) Q := by
  refine e_iload_n (pc' := 1) (dAt D68 0 rfl) rfl rfl ?_
  refine e_if_lt (t := 12) (pc' := 4) (dAt D68 1 rfl) ⟨by decide, by decide⟩ rfl (fun c => ?_) (fun c => ?_)
  · replace h := h.1 c
    refine e_iconst (pc' := 13) (v := (-1)) (dAt D68 6 rfl) rfl (by decide) ?_
    exact e_ireturn (dAt D68 7 rfl) rfl ⟨rfl, fun e => by cases e⟩ h
  · replace h := h.2 c
    refine e_iload_n (pc' := 5) (dAt D68 2 rfl) rfl rfl ?_
    refine e_aload_n (pc' := 6) (dAt D68 3 rfl) rfl rfl ?_
    refine e_getfield (pc' := 9) (dAt D68 4 rfl) rfl rfl hOx0 (hT.int hOx0 1 (by decide)) ?_
    refine e_icmp_lt (t := 14) (pc' := 12) (dAt D68 5 rfl) ⟨by decide, by decide⟩ rfl (fun c => ?_) (fun c => ?_)
    · replace h := h.1 c
      refine e_iload_n (pc' := 15) (dAt D68 8 rfl) rfl rfl ?_
      refine vc_if h (fun c0 h => ?_) (fun c0 h => ?_)
      · refine e_lookupswitch (off := 25) (t := 40) (dAt D68 9 rfl) rfl (by rw [c0]; rfl) ⟨by decide, by decide⟩ ?_
        refine e_aload_n (pc' := 41) (dAt D68 10 rfl) rfl rfl ?_
        refine e_getfield (pc' := 44) (dAt D68 11 rfl) rfl rfl hOx0 (hT.own hOx0 2 rfl) ?_
        refine e_iload_n (pc' := 45) (dAt D68 12 rfl) rfl rfl ?_
        obtain ⟨f1, h⟩ := h
        refine e_iaload (pc' := 46) (dAt D68 13 rfl) rfl (hT.arr hOx0 2 rfl (by decide)).1 (Or.inl (hT.arr hOx0 2 rfl (by decide)).2) f1 rfl ?_
        exact e_ireturn (dAt D68 14 rfl) rfl ⟨rfl, fun e => by cases e⟩ h
      · skip
        refine vc_if h (fun c1 h => ?_) (fun c1 h => ?_)
        · refine e_lookupswitch (off := 32) (t := 47) (dAt D68 9 rfl) rfl (by rw [c1]; rfl) ⟨by decide, by decide⟩ ?_
          refine e_aload_n (pc' := 48) (dAt D68 15 rfl) rfl rfl ?_
          refine e_getfield (pc' := 51) (dAt D68 16 rfl) rfl rfl hOx0 (hT.own hOx0 0 rfl) ?_
          refine e_iload_n (pc' := 52) (dAt D68 17 rfl) rfl rfl ?_
          obtain ⟨f1, h⟩ := h
          refine e_iaload (pc' := 53) (dAt D68 18 rfl) rfl (hT.arr hOx0 0 rfl (by decide)).1 (Or.inl (hT.arr hOx0 0 rfl (by decide)).2) f1 rfl ?_
          exact e_ireturn (dAt D68 19 rfl) rfl ⟨rfl, fun e => by cases e⟩ h
        · skip
          refine e_lookupswitch (off := 39) (t := 54) (dAt D68 9 rfl) rfl (by
            rw [show ∀ (r : List (Int × Int)) (o : Int), Op.lookupswitch.offset ((10, o) :: r) _ _ = _ from fun r o => lv_osw (k := 10) c0 (by decide)]
            rw [show ∀ (r : List (Int × Int)) (o : Int), Op.lookupswitch.offset ((11, o) :: r) _ _ = _ from fun r o => lv_osw (k := 11) c1 (by decide)]
            rfl) ⟨by decide, by decide⟩ ?_
          refine e_iload_n (pc' := 55) (dAt D68 20 rfl) rfl rfl ?_
          refine e_if_lt (t := 80) (pc' := 58) (dAt D68 21 rfl) ⟨by decide, by decide⟩ rfl (fun c => ?_) (fun c => ?_)
          · replace h := h.1 c
            refine e_iconst (pc' := 81) (v := (-1)) (dAt D68 35 rfl) rfl (by decide) ?_
            exact e_ireturn (dAt D68 36 rfl) rfl ⟨rfl, fun e => by cases e⟩ h
          · replace h := h.2 c
            refine e_iload_n (pc' := 59) (dAt D68 22 rfl) rfl rfl ?_
            refine e_aload_n (pc' := 60) (dAt D68 23 rfl) rfl rfl ?_
            refine e_getfield (pc' := 63) (dAt D68 24 rfl) rfl rfl hOx0 (hT.int hOx0 12 (by decide)) ?_
            refine e_icmp_ge (t := 80) (pc' := 66) (dAt D68 25 rfl) ⟨by decide, by decide⟩ rfl (fun c => ?_) (fun c => ?_)
            · replace h := h.1 c
              refine e_iconst (pc' := 81) (v := (-1)) (dAt D68 35 rfl) rfl (by decide) ?_
              exact e_ireturn (dAt D68 36 rfl) rfl ⟨rfl, fun e => by cases e⟩ h
            · replace h := h.2 c
              refine e_aload_n (pc' := 67) (dAt D68 26 rfl) rfl rfl ?_
              refine e_getfield (pc' := 70) (dAt D68 27 rfl) rfl rfl hOx0 (hT.own hOx0 1 rfl) ?_
              refine e_iload_n (pc' := 71) (dAt D68 28 rfl) rfl rfl ?_
              refine e_bipush (pc' := 73) (v := 10) (dAt D68 29 rfl) rfl (by decide) ?_
              refine e_imul (pc' := 74) (dAt D68 30 rfl) rfl ?_
              refine e_iload_n (pc' := 75) (dAt D68 31 rfl) rfl rfl ?_
              refine e_iadd (pc' := 76) (dAt D68 32 rfl) rfl ?_
              obtain ⟨f1, h⟩ := h
              refine e_iaload (pc' := 77) (dAt D68 33 rfl) rfl (hT.arr hOx0 1 rfl (by decide)).1 (Or.inl (hT.arr hOx0 1 rfl (by decide)).2) f1 rfl ?_
              refine e_goto (t := 81) (dAt D68 34 rfl) ⟨by decide, by decide⟩ ?_
              exact e_ireturn (dAt D68 36 rfl) rfl ⟨rfl, fun e => by cases e⟩ h
    · replace h := h.2 c
      refine e_iconst (pc' := 13) (v := (-1)) (dAt D68 6 rfl) rfl (by decide) ?_
      exact e_ireturn (dAt D68 7 rfl) rfl ⟨rfl, fun e => by cases e⟩ h
-- PlaceNets$Reach.countDead.()I, from 0
set_option maxRecDepth 20000 in
theorem bk70_0 {d b : Nat} {Q : Option Value → mMem → Prop} {m : mMem} {x0 : Nat} {x1 : Option Value} {x2 : Option Value} (hT : mWT m) (hOx0 : m.1 x0 = some (.inr 5) ∧ x0 ≠ 0)
    (h : mEs d 70 b g70 (4, [some (.ref x0), some (.int 0), some (.int 0)], [], m) Q) :
    mEs d 70 b g70 (0, [some (.ref x0), x1, x2], [], m) Q := by
  refine e_iconst (pc' := 1) (v := 0) (dAt D70 0 rfl) rfl (by decide) ?_
  refine e_istore_n (pc' := 2) (dAt D70 1 rfl) rfl (Nat.le_of_ble_eq_true rfl) rfl ?_
  refine e_iconst (pc' := 3) (v := 0) (dAt D70 2 rfl) rfl (by decide) ?_
  refine e_istore_n (pc' := 4) (dAt D70 3 rfl) rfl (Nat.le_of_ble_eq_true rfl) rfl ?_
  exact h
-- PlaceNets$Reach.countDead.()I, from 4
set_option maxRecDepth 20000 in
theorem bk70_4 {d b : Nat} {Q : Option Value → mMem → Prop} {m : mMem} {x0 : Nat} {x1 : Int32} {x2 : Int32} (hT : mWT m) (hOx0 : m.1 x0 = some (.inr 5) ∧ x0 ≠ 0)
    (h : ((((iF m x0 1) ≤ x2) → (Q (some (.int x1)) m)) ∧ (¬ ((iF m x0 1) ≤ x2) → ((mIn x2 300 = true) ∧ (((¬ (m.2.2.1 (64 * x0 + 3) x2.toNatClampNeg) = 0) → (∀ (v_1 : Int32), v_1 = (x2 + 1) → mEs d 70 b g70 (4, [some (.ref x0), some (.int x1), some (.int v_1)], [], m) Q)) ∧ (¬ (¬ (m.2.2.1 (64 * x0 + 3) x2.toNatClampNeg) = 0) → (∀ (v_2 : Int32), v_2 = (x1 + 1) → ∀ (v_3 : Int32), v_3 = (x2 + 1) → mEs d 70 b g70 (4, [some (.ref x0), some (.int v_2), some (.int v_3)], [], m) Q))))))) :
    mEs d 70 b g70 (4, [some (.ref x0), some (.int x1), some (.int x2)], [], m) Q := by
  refine e_iload_n (pc' := 5) (dAt D70 4 rfl) rfl rfl ?_
  refine e_aload_n (pc' := 6) (dAt D70 5 rfl) rfl rfl ?_
  refine e_getfield (pc' := 9) (dAt D70 6 rfl) rfl rfl hOx0 (hT.int hOx0 1 (by decide)) ?_
  refine e_icmp_ge (t := 30) (pc' := 12) (dAt D70 7 rfl) ⟨by decide, by decide⟩ rfl (fun c => ?_) (fun c => ?_)
  · replace h := h.1 c
    refine e_iload_n (pc' := 31) (dAt D70 16 rfl) rfl rfl ?_
    exact e_ireturn (dAt D70 17 rfl) rfl ⟨rfl, fun e => by cases e⟩ h
  · replace h := h.2 c
    refine e_aload_n (pc' := 13) (dAt D70 8 rfl) rfl rfl ?_
    refine e_getfield (pc' := 16) (dAt D70 9 rfl) rfl rfl hOx0 (hT.own hOx0 2 rfl) ?_
    refine e_iload_n (pc' := 17) (dAt D70 10 rfl) rfl rfl ?_
    obtain ⟨f1, h⟩ := h
    refine e_iaload (pc' := 18) (dAt D70 11 rfl) rfl (hT.arr hOx0 2 rfl (by decide)).1 (Or.inl (hT.arr hOx0 2 rfl (by decide)).2) f1 rfl ?_
    refine e_if_ne (t := 24) (pc' := 21) (dAt D70 12 rfl) ⟨by decide, by decide⟩ rfl (fun c => ?_) (fun c => ?_)
    · replace h := h.1 c
      replace h := h _ rfl
      refine e_iinc (pc' := 27) (dAt D70 14 rfl) rfl rfl (Nat.le_of_ble_eq_true rfl) (congrArg (_ + ·) (show Int32.ofInt (1) = (1 : Int32) by decide)) rfl ?_
      refine e_goto (t := 4) (dAt D70 15 rfl) ⟨by decide, by decide⟩ ?_
      exact h
    · replace h := h.2 c
      replace h := h _ rfl
      refine e_iinc (pc' := 24) (dAt D70 13 rfl) rfl rfl (Nat.le_of_ble_eq_true rfl) (congrArg (_ + ·) (show Int32.ofInt (1) = (1 : Int32) by decide)) rfl ?_
      replace h := h _ rfl
      refine e_iinc (pc' := 27) (dAt D70 14 rfl) rfl rfl (Nat.le_of_ble_eq_true rfl) (congrArg (_ + ·) (show Int32.ofInt (1) = (1 : Int32) by decide)) rfl ?_
      refine e_goto (t := 4) (dAt D70 15 rfl) ⟨by decide, by decide⟩ ?_
      exact h
-- PlaceNets$Reach.leastDead.()I, from 0
set_option maxRecDepth 20000 in
theorem bk71_0 {d b : Nat} {Q : Option Value → mMem → Prop} {m : mMem} {x0 : Nat} {x1 : Option Value} (hT : mWT m) (hOx0 : m.1 x0 = some (.inr 5) ∧ x0 ≠ 0)
    (h : mEs d 71 b g71 (2, [some (.ref x0), some (.int 0)], [], m) Q) :
    mEs d 71 b g71 (0, [some (.ref x0), x1], [], m) Q := by
  refine e_iconst (pc' := 1) (v := 0) (dAt D71 0 rfl) rfl (by decide) ?_
  refine e_istore_n (pc' := 2) (dAt D71 1 rfl) rfl (Nat.le_of_ble_eq_true rfl) rfl ?_
  exact h
-- PlaceNets$Reach.leastDead.()I, from 2
set_option maxRecDepth 20000 in
theorem bk71_2 {d b : Nat} {Q : Option Value → mMem → Prop} {m : mMem} {x0 : Nat} {x1 : Int32} (hT : mWT m) (hOx0 : m.1 x0 = some (.inr 5) ∧ x0 ≠ 0)
    (h : ((((iF m x0 1) ≤ x1) → (Q (some (.int ((-3)))) m)) ∧ (¬ ((iF m x0 1) ≤ x1) → ((mIn x1 300 = true) ∧ (((¬ (m.2.2.1 (64 * x0 + 3) x1.toNatClampNeg) = 0) → (∀ (v_1 : Int32), v_1 = (x1 + 1) → mEs d 71 b g71 (2, [some (.ref x0), some (.int v_1)], [], m) Q)) ∧ (¬ (¬ (m.2.2.1 (64 * x0 + 3) x1.toNatClampNeg) = 0) → (Q (some (.int x1)) m))))))) :
    mEs d 71 b g71 (2, [some (.ref x0), some (.int x1)], [], m) Q := by
  refine e_iload_n (pc' := 3) (dAt D71 2 rfl) rfl rfl ?_
  refine e_aload_n (pc' := 4) (dAt D71 3 rfl) rfl rfl ?_
  refine e_getfield (pc' := 7) (dAt D71 4 rfl) rfl rfl hOx0 (hT.int hOx0 1 (by decide)) ?_
  refine e_icmp_ge (t := 27) (pc' := 10) (dAt D71 5 rfl) ⟨by decide, by decide⟩ rfl (fun c => ?_) (fun c => ?_)
  · replace h := h.1 c
    refine e_bipush (pc' := 29) (v := (-3)) (dAt D71 15 rfl) rfl (by decide) ?_
    exact e_ireturn (dAt D71 16 rfl) rfl ⟨rfl, fun e => by cases e⟩ h
  · replace h := h.2 c
    refine e_aload_n (pc' := 11) (dAt D71 6 rfl) rfl rfl ?_
    refine e_getfield (pc' := 14) (dAt D71 7 rfl) rfl rfl hOx0 (hT.own hOx0 2 rfl) ?_
    refine e_iload_n (pc' := 15) (dAt D71 8 rfl) rfl rfl ?_
    obtain ⟨f1, h⟩ := h
    refine e_iaload (pc' := 16) (dAt D71 9 rfl) rfl (hT.arr hOx0 2 rfl (by decide)).1 (Or.inl (hT.arr hOx0 2 rfl (by decide)).2) f1 rfl ?_
    refine e_if_ne (t := 21) (pc' := 19) (dAt D71 10 rfl) ⟨by decide, by decide⟩ rfl (fun c => ?_) (fun c => ?_)
    · replace h := h.1 c
      replace h := h _ rfl
      refine e_iinc (pc' := 24) (dAt D71 13 rfl) rfl rfl (Nat.le_of_ble_eq_true rfl) (congrArg (_ + ·) (show Int32.ofInt (1) = (1 : Int32) by decide)) rfl ?_
      refine e_goto (t := 2) (dAt D71 14 rfl) ⟨by decide, by decide⟩ ?_
      exact h
    · replace h := h.2 c
      refine e_iload_n (pc' := 20) (dAt D71 11 rfl) rfl rfl ?_
      exact e_ireturn (dAt D71 12 rfl) rfl ⟨rfl, fun e => by cases e⟩ h
-- PlaceNets$Reach.countComingTo.(I)I, from 0
set_option maxRecDepth 20000 in
theorem bk72_0 {d b : Nat} {Q : Option Value → mMem → Prop} {m : mMem} {x0 : Nat} {x1 : Int32} {x2 : Option Value} {x3 : Option Value} (hT : mWT m) (hOx0 : m.1 x0 = some (.inr 5) ∧ x0 ≠ 0)
    (h : mEs d 72 b g72 (4, [some (.ref x0), some (.int x1), some (.int 0), some (.int 0)], [], m) Q) :
    mEs d 72 b g72 (0, [some (.ref x0), some (.int x1), x2, x3], [], m) Q := by
  refine e_iconst (pc' := 1) (v := 0) (dAt D72 0 rfl) rfl (by decide) ?_
  refine e_istore_n (pc' := 2) (dAt D72 1 rfl) rfl (Nat.le_of_ble_eq_true rfl) rfl ?_
  refine e_iconst (pc' := 3) (v := 0) (dAt D72 2 rfl) rfl (by decide) ?_
  refine e_istore_n (pc' := 4) (dAt D72 3 rfl) rfl (Nat.le_of_ble_eq_true rfl) rfl ?_
  exact h
-- PlaceNets$Reach.countComingTo.(I)I, from 4
set_option maxRecDepth 20000 in
theorem bk72_4 {d b : Nat} {Q : Option Value → mMem → Prop} {m : mMem} {x0 : Nat} {x1 : Int32} {x2 : Int32} {x3 : Int32} (hT : mWT m) (hOx0 : m.1 x0 = some (.inr 5) ∧ x0 ≠ 0)
    (h : ((((iF m x0 1) ≤ x3) → (Q (some (.int x2)) m)) ∧ (¬ ((iF m x0 1) ≤ x3) → ((mIn x3 300 = true) ∧ (∀ (v_1 : Int32), v_1 = (x2 + (((m.2.2.1 (64 * x0 + 7) x3.toNatClampNeg) >>> (x1 &&& 31)) &&& 1)) → ∀ (v_2 : Int32), v_2 = (x3 + 1) → mEs d 72 b g72 (4, [some (.ref x0), some (.int x1), some (.int v_1), some (.int v_2)], [], m) Q))))) :
    mEs d 72 b g72 (4, [some (.ref x0), some (.int x1), some (.int x2), some (.int x3)], [], m) Q := by
  refine e_iload_n (pc' := 5) (dAt D72 4 rfl) rfl rfl ?_
  refine e_aload_n (pc' := 6) (dAt D72 5 rfl) rfl rfl ?_
  refine e_getfield (pc' := 9) (dAt D72 6 rfl) rfl rfl hOx0 (hT.int hOx0 1 (by decide)) ?_
  refine e_icmp_ge (t := 31) (pc' := 12) (dAt D72 7 rfl) ⟨by decide, by decide⟩ rfl (fun c => ?_) (fun c => ?_)
  · replace h := h.1 c
    refine e_iload_n (pc' := 32) (dAt D72 21 rfl) rfl rfl ?_
    exact e_ireturn (dAt D72 22 rfl) rfl ⟨rfl, fun e => by cases e⟩ h
  · replace h := h.2 c
    refine e_iload_n (pc' := 13) (dAt D72 8 rfl) rfl rfl ?_
    refine e_aload_n (pc' := 14) (dAt D72 9 rfl) rfl rfl ?_
    refine e_getfield (pc' := 17) (dAt D72 10 rfl) rfl rfl hOx0 (hT.own hOx0 6 rfl) ?_
    refine e_iload_n (pc' := 18) (dAt D72 11 rfl) rfl rfl ?_
    obtain ⟨f1, h⟩ := h
    refine e_iaload (pc' := 19) (dAt D72 12 rfl) rfl (hT.arr hOx0 6 rfl (by decide)).1 (Or.inl (hT.arr hOx0 6 rfl (by decide)).2) f1 rfl ?_
    refine e_iload_n (pc' := 20) (dAt D72 13 rfl) rfl rfl ?_
    refine e_ishr (pc' := 21) (dAt D72 14 rfl) rfl ?_
    refine e_iconst (pc' := 22) (v := 1) (dAt D72 15 rfl) rfl (by decide) ?_
    refine e_iand (pc' := 23) (dAt D72 16 rfl) rfl ?_
    refine e_iadd (pc' := 24) (dAt D72 17 rfl) rfl ?_
    replace h := h _ rfl
    refine e_istore_n (pc' := 25) (dAt D72 18 rfl) rfl (Nat.le_of_ble_eq_true rfl) rfl ?_
    replace h := h _ rfl
    refine e_iinc (pc' := 28) (dAt D72 19 rfl) rfl rfl (Nat.le_of_ble_eq_true rfl) (congrArg (_ + ·) (show Int32.ofInt (1) = (1 : Int32) by decide)) rfl ?_
    refine e_goto (t := 4) (dAt D72 20 rfl) ⟨by decide, by decide⟩ ?_
    exact h
-- PlaceNets$Reach.liveness.(I)I, from 0
set_option maxRecDepth 20000 in
theorem bk74_0 {d b : Nat} {Q : Option Value → mMem → Prop} {m : mMem} {x0 : Nat} {x1 : Int32} {x2 : Option Value} (hT : mWT m) (hOx0 : m.1 x0 = some (.inr 5) ∧ x0 ≠ 0)
    (h : mEv d 72 [.ref x0, .int x1] m (fun r m' => mEs d 74 b g74 (5, [some (.ref x0), some (.int x1), x2], r.toList ++ [], m') Q)) :
    mEs d 74 b g74 (0, [some (.ref x0), some (.int x1), x2], [], m) Q := by
  refine e_aload_n (pc' := 1) (dAt D74 0 rfl) rfl rfl ?_
  refine e_iload_n (pc' := 2) (dAt D74 1 rfl) rfl rfl ?_
  exact e_call2 h (dAt D74 2 rfl) (hi0 rfl) rfl G72 (by decide) rfl (Nat.le_of_ble_eq_true rfl) (kV hOx0 rfl rfl) rfl rfl
-- PlaceNets$Reach.liveness.(I)I, from 5
set_option maxRecDepth 20000 in
theorem bk74_5 {d b : Nat} {Q : Option Value → mMem → Prop} {m : mMem} {x0 : Nat} {x1 : Int32} {x2 : Option Value} {y0 : Int32} (hT : mWT m) (hOx0 : m.1 x0 = some (.inr 5) ∧ x0 ≠ 0)
    (h : (((¬ y0 = (iF m x0 1)) → (((y0 ≤ 0) → (Q (some (.int 0)) m)) ∧ (¬ (y0 ≤ 0) → (Q (some (.int 1)) m)))) ∧ (¬ (¬ y0 = (iF m x0 1)) → (Q (some (.int 2)) m)))) :
    mEs d 74 b g74 (5, [some (.ref x0), some (.int x1), x2], [.int y0], m) Q := by
  refine e_istore_n (pc' := 6) (dAt D74 3 rfl) rfl (Nat.le_of_ble_eq_true rfl) rfl ?_
  refine e_iload_n (pc' := 7) (dAt D74 4 rfl) rfl rfl ?_
  refine e_aload_n (pc' := 8) (dAt D74 5 rfl) rfl rfl ?_
  refine e_getfield (pc' := 11) (dAt D74 6 rfl) rfl rfl hOx0 (hT.int hOx0 1 (by decide)) ?_
  refine e_icmp_ne (t := 16) (pc' := 14) (dAt D74 7 rfl) ⟨by decide, by decide⟩ rfl (fun c => ?_) (fun c => ?_)
  · replace h := h.1 c
    refine e_iload_n (pc' := 17) (dAt D74 10 rfl) rfl rfl ?_
    refine e_if_le (t := 24) (pc' := 20) (dAt D74 11 rfl) ⟨by decide, by decide⟩ rfl (fun c => ?_) (fun c => ?_)
    · replace h := h.1 c
      refine e_iconst (pc' := 25) (v := 0) (dAt D74 14 rfl) rfl (by decide) ?_
      exact e_ireturn (dAt D74 15 rfl) rfl ⟨rfl, fun e => by cases e⟩ h
    · replace h := h.2 c
      refine e_iconst (pc' := 21) (v := 1) (dAt D74 12 rfl) rfl (by decide) ?_
      refine e_goto (t := 25) (dAt D74 13 rfl) ⟨by decide, by decide⟩ ?_
      exact e_ireturn (dAt D74 15 rfl) rfl ⟨rfl, fun e => by cases e⟩ h
  · replace h := h.2 c
    refine e_iconst (pc' := 15) (v := 2) (dAt D74 8 rfl) rfl (by decide) ?_
    exact e_ireturn (dAt D74 9 rfl) rfl ⟨rfl, fun e => by cases e⟩ h
-- PlaceNets$Reach.stepTo.(II)I, from 0
set_option maxRecDepth 20000 in
theorem bk76_0 {d b : Nat} {Q : Option Value → mMem → Prop} {m : mMem} {x0 : Nat} {x1 : Int32} {x2 : Int32} {x3 : Option Value} {x4 : Option Value} (hT : mWT m) (hOx0 : m.1 x0 = some (.inr 5) ∧ x0 ≠ 0)
    (h : (((x2 < 0) → (Q (some (.int ((-1)))) m)) ∧ (¬ (x2 < 0) → ((mIn x1 300 = true) ∧ (((x2 < (m.2.2.1 (64 * x0 + 1) x1.toNatClampNeg)) → (mEs d 76 b g76 (21, [some (.ref x0), some (.int x1), some (.int x2), some (.int x1), some (.int 0)], [], m) Q)) ∧ (¬ (x2 < (m.2.2.1 (64 * x0 + 1) x1.toNatClampNeg)) → (Q (some (.int ((-1)))) m))))))) :
    mEs d 76 b g76 (0, [some (.ref x0), some (.int x1), some (.int x2), x3, x4], [], m) Q := by
  refine e_iload_n (pc' := 1) (dAt D76 0 rfl) rfl rfl ?_
  refine e_if_lt (t := 14) (pc' := 4) (dAt D76 1 rfl) ⟨by decide, by decide⟩ rfl (fun c => ?_) (fun c => ?_)
  · replace h := h.1 c
    refine e_iconst (pc' := 15) (v := (-1)) (dAt D76 8 rfl) rfl (by decide) ?_
    exact e_ireturn (dAt D76 9 rfl) rfl ⟨rfl, fun e => by cases e⟩ h
  · replace h := h.2 c
    refine e_iload_n (pc' := 5) (dAt D76 2 rfl) rfl rfl ?_
    refine e_aload_n (pc' := 6) (dAt D76 3 rfl) rfl rfl ?_
    refine e_getfield (pc' := 9) (dAt D76 4 rfl) rfl rfl hOx0 (hT.own hOx0 0 rfl) ?_
    refine e_iload_n (pc' := 10) (dAt D76 5 rfl) rfl rfl ?_
    obtain ⟨f1, h⟩ := h
    refine e_iaload (pc' := 11) (dAt D76 6 rfl) rfl (hT.arr hOx0 0 rfl (by decide)).1 (Or.inl (hT.arr hOx0 0 rfl (by decide)).2) f1 rfl ?_
    refine e_icmp_lt (t := 16) (pc' := 14) (dAt D76 7 rfl) ⟨by decide, by decide⟩ rfl (fun c => ?_) (fun c => ?_)
    · replace h := h.1 c
      refine e_iload_n (pc' := 17) (dAt D76 10 rfl) rfl rfl ?_
      refine e_istore_n (pc' := 18) (dAt D76 11 rfl) rfl (Nat.le_of_ble_eq_true rfl) rfl ?_
      refine e_iconst (pc' := 19) (v := 0) (dAt D76 12 rfl) rfl (by decide) ?_
      refine e_istore (pc' := 21) (dAt D76 13 rfl) rfl (Nat.le_of_ble_eq_true rfl) rfl ?_
      exact h
    · replace h := h.2 c
      refine e_iconst (pc' := 15) (v := (-1)) (dAt D76 8 rfl) rfl (by decide) ?_
      exact e_ireturn (dAt D76 9 rfl) rfl ⟨rfl, fun e => by cases e⟩ h
-- PlaceNets$Reach.stepTo.(II)I, from 21
set_option maxRecDepth 20000 in
theorem bk76_21 {d b : Nat} {Q : Option Value → mMem → Prop} {m : mMem} {x0 : Nat} {x1 : Int32} {x2 : Int32} {x3 : Int32} {x4 : Int32} (hT : mWT m) (hOx0 : m.1 x0 = some (.inr 5) ∧ x0 ≠ 0)
    (h : (((300 ≤ x4) → ((mIn x3 300 = true) ∧ (Q (some (.int (m.2.2.1 (64 * x0 + 5) x3.toNatClampNeg))) m))) ∧ (¬ (300 ≤ x4) → ((mIn x3 300 = true) ∧ ((((m.2.2.1 (64 * x0 + 1) x3.toNatClampNeg) ≤ (x2 + 1)) → ((mIn x3 300 = true) ∧ (Q (some (.int (m.2.2.1 (64 * x0 + 5) x3.toNatClampNeg))) m))) ∧ (¬ ((m.2.2.1 (64 * x0 + 1) x3.toNatClampNeg) ≤ (x2 + 1)) → ((mIn x3 300 = true) ∧ (∀ (v_1 : Int32), v_1 = (m.2.2.1 (64 * x0 + 4) x3.toNatClampNeg) → ∀ (v_2 : Int32), v_2 = (x4 + 1) → mEs d 76 b g76 (21, [some (.ref x0), some (.int x1), some (.int x2), some (.int v_1), some (.int v_2)], [], m) Q)))))))) :
    mEs d 76 b g76 (21, [some (.ref x0), some (.int x1), some (.int x2), some (.int x3), some (.int x4)], [], m) Q := by
  refine e_iload (pc' := 23) (dAt D76 14 rfl) rfl rfl ?_
  refine e_sipush (pc' := 26) (v := 300) (dAt D76 15 rfl) rfl (by decide) ?_
  refine e_icmp_ge (t := 54) (pc' := 29) (dAt D76 16 rfl) ⟨by decide, by decide⟩ rfl (fun c => ?_) (fun c => ?_)
  · replace h := h.1 c
    refine e_aload_n (pc' := 55) (dAt D76 32 rfl) rfl rfl ?_
    refine e_getfield (pc' := 58) (dAt D76 33 rfl) rfl rfl hOx0 (hT.own hOx0 4 rfl) ?_
    refine e_iload_n (pc' := 59) (dAt D76 34 rfl) rfl rfl ?_
    obtain ⟨f1, h⟩ := h
    refine e_iaload (pc' := 60) (dAt D76 35 rfl) rfl (hT.arr hOx0 4 rfl (by decide)).1 (Or.inl (hT.arr hOx0 4 rfl (by decide)).2) f1 rfl ?_
    exact e_ireturn (dAt D76 36 rfl) rfl ⟨rfl, fun e => by cases e⟩ h
  · replace h := h.2 c
    refine e_aload_n (pc' := 30) (dAt D76 17 rfl) rfl rfl ?_
    refine e_getfield (pc' := 33) (dAt D76 18 rfl) rfl rfl hOx0 (hT.own hOx0 0 rfl) ?_
    refine e_iload_n (pc' := 34) (dAt D76 19 rfl) rfl rfl ?_
    obtain ⟨f1, h⟩ := h
    refine e_iaload (pc' := 35) (dAt D76 20 rfl) rfl (hT.arr hOx0 0 rfl (by decide)).1 (Or.inl (hT.arr hOx0 0 rfl (by decide)).2) f1 rfl ?_
    refine e_iload_n (pc' := 36) (dAt D76 21 rfl) rfl rfl ?_
    refine e_iconst (pc' := 37) (v := 1) (dAt D76 22 rfl) rfl (by decide) ?_
    refine e_iadd (pc' := 38) (dAt D76 23 rfl) rfl ?_
    refine e_icmp_le (t := 54) (pc' := 41) (dAt D76 24 rfl) ⟨by decide, by decide⟩ rfl (fun c => ?_) (fun c => ?_)
    · replace h := h.1 c
      refine e_aload_n (pc' := 55) (dAt D76 32 rfl) rfl rfl ?_
      refine e_getfield (pc' := 58) (dAt D76 33 rfl) rfl rfl hOx0 (hT.own hOx0 4 rfl) ?_
      refine e_iload_n (pc' := 59) (dAt D76 34 rfl) rfl rfl ?_
      obtain ⟨f1, h⟩ := h
      refine e_iaload (pc' := 60) (dAt D76 35 rfl) rfl (hT.arr hOx0 4 rfl (by decide)).1 (Or.inl (hT.arr hOx0 4 rfl (by decide)).2) f1 rfl ?_
      exact e_ireturn (dAt D76 36 rfl) rfl ⟨rfl, fun e => by cases e⟩ h
    · replace h := h.2 c
      refine e_aload_n (pc' := 42) (dAt D76 25 rfl) rfl rfl ?_
      refine e_getfield (pc' := 45) (dAt D76 26 rfl) rfl rfl hOx0 (hT.own hOx0 3 rfl) ?_
      refine e_iload_n (pc' := 46) (dAt D76 27 rfl) rfl rfl ?_
      obtain ⟨f1, h⟩ := h
      refine e_iaload (pc' := 47) (dAt D76 28 rfl) rfl (hT.arr hOx0 3 rfl (by decide)).1 (Or.inl (hT.arr hOx0 3 rfl (by decide)).2) f1 rfl ?_
      replace h := h _ rfl
      refine e_istore_n (pc' := 48) (dAt D76 29 rfl) rfl (Nat.le_of_ble_eq_true rfl) rfl ?_
      replace h := h _ rfl
      refine e_iinc (pc' := 51) (dAt D76 30 rfl) rfl rfl (Nat.le_of_ble_eq_true rfl) (congrArg (_ + ·) (show Int32.ofInt (1) = (1 : Int32) by decide)) rfl ?_
      refine e_goto (t := 21) (dAt D76 31 rfl) ⟨by decide, by decide⟩ ?_
      exact h
