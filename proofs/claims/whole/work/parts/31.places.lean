abbrev g4 : mG := (⟨"PlaceNets", "sign", "(I)I"⟩, prog_1_method_2_code, 2, (some .int), 1, 2, 0, false)
theorem G4 : mGm[4]? = some g4 := rfl
def tb4 : List (Nat × Instr × Nat) := [(0, .aload_n 0, 1), (1, .getfield 10, 3), (4, .iload_n 1, 1), (5, .invokevirtual 36, 3), (8, .ireturn, 1)]
set_option maxRecDepth 20000 in
theorem D4 : tb4.all (dOk prog_1_method_2_code) = true := by decide +kernel
abbrev g6 : mG := (⟨"PlaceNets", "end", "(I)Z"⟩, prog_1_method_3_code, 2, (some .boolean), 1, 2, 0, false)
theorem G6 : mGm[6]? = some g6 := rfl
def tb6 : List (Nat × Instr × Nat) := [(0, .aload_n 0, 1), (1, .getfield 10, 3), (4, .iload_n 1, 1), (5, .invokevirtual 40, 3), (8, .ireturn, 1)]
set_option maxRecDepth 20000 in
theorem D6 : tb6.all (dOk prog_1_method_3_code) = true := by decide +kernel
abbrev g8 : mG := (⟨"PlaceNets", "net", "()I"⟩, prog_1_method_4_code, 3, (some .int), 1, 1, 0, false)
theorem G8 : mGm[8]? = some g8 := rfl
def tb8 : List (Nat × Instr × Nat) := [(0, .aload_n 0, 1), (1, .getfield 10, 3), (4, .aload_n 0, 1), (5, .getfield 23, 3), (8, .invokevirtual 44, 3), (11, .istore_n 1, 1), (12, .aload_n 0, 1), (13, .getfield 10, 3), (16, .iconst (0), 1), (17, .invokevirtual 40, 3), (20, .pop, 1), (21, .iload_n 1, 1), (22, .iconst (-1), 1), (23, .if_icmp .eq (9), 3), (26, .sipush (-1000), 3), (29, .iload_n 1, 1), (30, .isub, 1), (31, .ireturn, 1), (32, .aload_n 0, 1), (33, .getfield 19, 3), (36, .astore_n 2, 1), (37, .aload_n 0, 1), (38, .aload_n 0, 1), (39, .getfield 23, 3), (42, .putfield 19, 3), (45, .aload_n 0, 1), (46, .aload_n 2, 1), (47, .putfield 23, 3), (50, .aload_n 0, 1), (51, .getfield 19, 3), (54, .getfield 48, 3), (57, .iconst (0), 1), (58, .aload_n 0, 1), (59, .getfield 26, 3), (62, .iconst (0), 1), (63, .bipush (10), 2), (65, .invokestatic 51, 3), (68, .aload_n 0, 1), (69, .getfield 30, 3), (72, .iconst (0), 1), (73, .invokestatic 57, 3), (76, .aload_n 0, 1), (77, .iconst (0), 1), (78, .putfield 63, 3), (81, .aload_n 0, 1), (82, .dup, 1), (83, .getfield 67, 3), (86, .iconst (1), 1), (87, .iadd, 1), (88, .putfield 67, 3), (91, .aload_n 0, 1), (92, .dup, 1), (93, .getfield 70, 3), (96, .iconst (1), 1), (97, .iadd, 1), (98, .putfield 70, 3), (101, .aload_n 0, 1), (102, .getfield 19, 3), (105, .getfield 73, 3), (108, .ireturn, 1)]
set_option maxRecDepth 20000 in
theorem D8 : tb8.all (dOk prog_1_method_4_code) = true := by decide +kernel
abbrev g18 : mG := (⟨"PlaceNets", "tokens", "(II)I"⟩, prog_1_method_6_code, 3, (some .int), 1, 3, 0, false)
theorem G18 : mGm[18]? = some g18 := rfl
def tb18 : List (Nat × Instr × Nat) := [(0, .aload_n 0, 1), (1, .getfield 19, 3), (4, .iload_n 1, 1), (5, .invokevirtual 79, 3), (8, .ifCond .ne (5), 3), (11, .iconst (-1), 1), (12, .ireturn, 1), (13, .iload_n 2, 1), (14, .tableswitch (50) (0) (2) #[(26), (33), (43)], 26), (40, .aload_n 0, 1), (41, .getfield 26, 3), (44, .iload_n 1, 1), (45, .iaload, 1), (46, .ireturn, 1), (47, .aload_n 0, 1), (48, .getfield 19, 3), (51, .getfield 48, 3), (54, .iload_n 1, 1), (55, .iaload, 1), (56, .ireturn, 1), (57, .aload_n 0, 1), (58, .getfield 30, 3), (61, .iload_n 1, 1), (62, .iaload, 1), (63, .ireturn, 1), (64, .iconst (-1), 1), (65, .ireturn, 1)]
set_option maxRecDepth 20000 in
theorem D18 : tb18.all (dOk prog_1_method_6_code) = true := by decide +kernel
abbrev g20 : mG := (⟨"PlaceNets", "can", "()I"⟩, prog_1_method_7_code, 1, (some .int), 1, 1, 0, false)
theorem G20 : mGm[20]? = some g20 := rfl
def tb20 : List (Nat × Instr × Nat) := [(0, .aload_n 0, 1), (1, .invokevirtual 91, 3), (4, .ifCond .eq (17), 3), (7, .aload_n 0, 1), (8, .getfield 19, 3), (11, .aload_n 0, 1), (12, .getfield 26, 3), (15, .invokevirtual 95, 3), (18, .goto (4), 3), (21, .iconst (-1), 1), (22, .ireturn, 1)]
set_option maxRecDepth 20000 in
theorem D20 : tb20.all (dOk prog_1_method_7_code) = true := by decide +kernel
abbrev g21 : mG := (⟨"PlaceNets", "hasNet", "()Z"⟩, prog_1_method_32_code, 1, (some .boolean), 1, 1, 0, false)
theorem G21 : mGm[21]? = some g21 := rfl
def tb21 : List (Nat × Instr × Nat) := [(0, .aload_n 0, 1), (1, .getfield 19, 3), (4, .getfield 213, 3), (7, .ifCond .le (7), 3), (10, .iconst (1), 1), (11, .goto (4), 3), (14, .iconst (0), 1), (15, .ireturn, 1)]
set_option maxRecDepth 20000 in
theorem D21 : tb21.all (dOk prog_1_method_32_code) = true := by decide +kernel
abbrev g24 : mG := (⟨"PlaceNets", "fire", "(I)I"⟩, prog_1_method_8_code, 2, (some .int), 1, 2, 0, false)
theorem G24 : mGm[24]? = some g24 := rfl
def tb24 : List (Nat × Instr × Nat) := [(0, .aload_n 0, 1), (1, .getfield 19, 3), (4, .iload_n 1, 1), (5, .invokevirtual 76, 3), (8, .ifCond .ne (6), 3), (11, .bipush (-2), 2), (13, .ireturn, 1), (14, .aload_n 0, 1), (15, .getfield 19, 3), (18, .aload_n 0, 1), (19, .getfield 26, 3), (22, .iload_n 1, 1), (23, .invokevirtual 99, 3), (26, .ifCond .ne (6), 3), (29, .bipush (-3), 2), (31, .ireturn, 1), (32, .aload_n 0, 1), (33, .invokevirtual 103, 3), (36, .aload_n 0, 1), (37, .getfield 19, 3), (40, .aload_n 0, 1), (41, .getfield 26, 3), (44, .iload_n 1, 1), (45, .invokevirtual 106, 3), (48, .aload_n 0, 1), (49, .getfield 19, 3), (52, .aload_n 0, 1), (53, .getfield 26, 3), (56, .invokevirtual 95, 3), (59, .invokestatic 109, 3), (62, .ireturn, 1)]
set_option maxRecDepth 20000 in
theorem D24 : tb24.all (dOk prog_1_method_8_code) = true := by decide +kernel
abbrev g26 : mG := (⟨"PlaceNets", "keepAct", "()V"⟩, prog_1_method_35_code, 1, none, 1, 1, 0, false)
theorem G26 : mGm[26]? = some g26 := rfl
def tb26 : List (Nat × Instr × Nat) := [(0, .aload_n 0, 1), (1, .getfield 63, 3), (4, .bipush (10), 2), (6, .if_icmp .ne (29), 3), (9, .aload_n 0, 1), (10, .getfield 33, 3), (13, .bipush (10), 2), (15, .aload_n 0, 1), (16, .getfield 33, 3), (19, .iconst (0), 1), (20, .bipush (90), 2), (22, .invokestatic 51, 3), (25, .aload_n 0, 1), (26, .dup, 1), (27, .getfield 63, 3), (30, .iconst (1), 1), (31, .isub, 1), (32, .putfield 63, 3), (35, .aload_n 0, 1), (36, .getfield 26, 3), (39, .iconst (0), 1), (40, .aload_n 0, 1), (41, .getfield 33, 3), (44, .aload_n 0, 1), (45, .getfield 63, 3), (48, .bipush (10), 2), (50, .imul, 1), (51, .bipush (10), 2), (53, .invokestatic 51, 3), (56, .aload_n 0, 1), (57, .dup, 1), (58, .getfield 63, 3), (61, .iconst (1), 1), (62, .iadd, 1), (63, .putfield 63, 3), (66, .aload_n 0, 1), (67, .dup, 1), (68, .getfield 70, 3), (71, .iconst (1), 1), (72, .iadd, 1), (73, .putfield 70, 3), (76, .return_, 1)]
set_option maxRecDepth 20000 in
theorem D26 : tb26.all (dOk prog_1_method_35_code) = true := by decide +kernel
abbrev g30 : mG := (⟨"PlaceNets", "put", "(II)I"⟩, prog_1_method_9_code, 4, (some .int), 1, 3, 0, false)
theorem G30 : mGm[30]? = some g30 := rfl
def tb30 : List (Nat × Instr × Nat) := [(0, .iload_n 2, 1), (1, .invokestatic 114, 3), (4, .ifCond .ne (5), 3), (7, .iconst (-1), 1), (8, .ireturn, 1), (9, .aload_n 0, 1), (10, .getfield 19, 3), (13, .iload_n 1, 1), (14, .invokevirtual 79, 3), (17, .ifCond .ne (6), 3), (20, .bipush (-2), 2), (22, .ireturn, 1), (23, .aload_n 0, 1), (24, .invokevirtual 103, 3), (27, .aload_n 0, 1), (28, .getfield 26, 3), (31, .iload_n 1, 1), (32, .iaload, 1), (33, .istore_n 3, 1), (34, .aload_n 0, 1), (35, .getfield 26, 3), (38, .iload_n 1, 1), (39, .iload_n 2, 1), (40, .iastore, 1), (41, .iload_n 3, 1), (42, .ireturn, 1)]
set_option maxRecDepth 20000 in
theorem D30 : tb30.all (dOk prog_1_method_9_code) = true := by decide +kernel
abbrev g31 : mG := (⟨"PlaceNets", "isTokenNumber", "(I)Z"⟩, prog_1_method_33_code, 1, (some .boolean), 1, 1, 99, false)
theorem G31 : mGm[31]? = some g31 := rfl
def tb31 : List (Nat × Instr × Nat) := [(0, .iload_n 0, 1), (1, .ifCond .lt (13), 3), (4, .iload_n 0, 1), (5, .bipush (99), 2), (7, .if_icmp .gt (7), 3), (10, .iconst (1), 1), (11, .goto (4), 3), (14, .iconst (0), 1), (15, .ireturn, 1)]
set_option maxRecDepth 20000 in
theorem D31 : tb31.all (dOk prog_1_method_33_code) = true := by decide +kernel
abbrev g32 : mG := (⟨"PlaceNets", "run", "(II)I"⟩, prog_1_method_10_code, 7, (some .int), 1, 3, 0, false)
theorem G32 : mGm[32]? = some g32 := rfl
def tb32 : List (Nat × Instr × Nat) := [(0, .iload_n 1, 1), (1, .ifCond .lt (21), 3), (4, .iload_n 1, 1), (5, .ldc 117, 2), (7, .if_icmp .ge (15), 3), (10, .iload_n 2, 1), (11, .iconst (1), 1), (12, .if_icmp .lt (10), 3), (15, .iload_n 2, 1), (16, .sipush (200), 3), (19, .if_icmp .le (5), 3), (22, .iconst (-1), 1), (23, .ireturn, 1), (24, .aload_n 0, 1), (25, .invokevirtual 91, 3), (28, .ifCond .ne (6), 3), (31, .bipush (-2), 2), (33, .ireturn, 1), (34, .aload_n 0, 1), (35, .invokevirtual 103, 3), (38, .iload_n 1, 1), (39, .istore_n 3, 1), (40, .iconst (0), 1), (41, .istore 4, 2), (43, .iload 4, 2), (45, .iload_n 2, 1), (46, .if_icmp .ge (70), 3), (49, .aload_n 0, 1), (50, .getfield 19, 3), (53, .aload_n 0, 1), (54, .getfield 26, 3), (57, .invokevirtual 95, 3), (60, .istore 5, 2), (62, .iload 5, 2), (64, .invokestatic 109, 3), (67, .istore 6, 2), (69, .iload 6, 2), (71, .ifCond .ne (6), 3), (74, .iload 4, 2), (76, .ireturn, 1), (77, .sipush (1103), 3), (80, .iload_n 3, 1), (81, .imul, 1), (82, .sipush (12345), 3), (85, .iadd, 1), (86, .ldc 118, 2), (88, .irem, 1), (89, .istore_n 3, 1), (90, .aload_n 0, 1), (91, .getfield 19, 3), (94, .aload_n 0, 1), (95, .getfield 26, 3), (98, .iload 5, 2), (100, .iload_n 3, 1), (101, .iload 6, 2), (103, .irem, 1), (104, .invokestatic 119, 3), (107, .invokevirtual 106, 3), (110, .iinc 4 (1), 3), (113, .goto (-70), 3), (116, .iload_n 2, 1), (117, .ireturn, 1)]
set_option maxRecDepth 20000 in
theorem D32 : tb32.all (dOk prog_1_method_10_code) = true := by decide +kernel
abbrev g33 : mG := (⟨"PlaceNets", "bitAt", "(II)I"⟩, prog_1_method_36_code, 4, (some .int), 1, 2, 99, false)
theorem G33 : mGm[33]? = some g33 := rfl
def tb33 : List (Nat × Instr × Nat) := [(0, .iconst (0), 1), (1, .istore_n 2, 1), (2, .iconst (0), 1), (3, .istore_n 3, 1), (4, .iload_n 3, 1), (5, .bipush (10), 2), (7, .if_icmp .ge (28), 3), (10, .iload_n 0, 1), (11, .iload_n 3, 1), (12, .ishr, 1), (13, .iconst (1), 1), (14, .iand, 1), (15, .iconst (1), 1), (16, .if_icmp .ne (13), 3), (19, .iload_n 2, 1), (20, .iload_n 1, 1), (21, .if_icmp .ne (5), 3), (24, .iload_n 3, 1), (25, .ireturn, 1), (26, .iinc 2 (1), 3), (29, .iinc 3 (1), 3), (32, .goto (-28), 3), (35, .iconst (-1), 1), (36, .ireturn, 1)]
set_option maxRecDepth 20000 in
theorem D33 : tb33.all (dOk prog_1_method_36_code) = true := by decide +kernel
abbrev g34 : mG := (⟨"PlaceNets", "home", "()I"⟩, prog_1_method_11_code, 1, (some .int), 1, 1, 0, false)
theorem G34 : mGm[34]? = some g34 := rfl
def tb34 : List (Nat × Instr × Nat) := [(0, .aload_n 0, 1), (1, .invokevirtual 91, 3), (4, .ifCond .ne (6), 3), (7, .bipush (-2), 2), (9, .ireturn, 1), (10, .aload_n 0, 1), (11, .invokevirtual 103, 3), (14, .aload_n 0, 1), (15, .getfield 19, 3), (18, .getfield 48, 3), (21, .iconst (0), 1), (22, .aload_n 0, 1), (23, .getfield 26, 3), (26, .iconst (0), 1), (27, .bipush (10), 2), (29, .invokestatic 51, 3), (32, .aload_n 0, 1), (33, .invokevirtual 123, 3), (36, .ireturn, 1)]
set_option maxRecDepth 20000 in
theorem D34 : tb34.all (dOk prog_1_method_11_code) = true := by decide +kernel
abbrev g35 : mG := (⟨"PlaceNets", "tokensInAll", "()I"⟩, prog_1_method_34_code, 3, (some .int), 1, 1, 0, false)
theorem G35 : mGm[35]? = some g35 := rfl
def tb35 : List (Nat × Instr × Nat) := [(0, .iconst (0), 1), (1, .istore_n 1, 1), (2, .iconst (0), 1), (3, .istore_n 2, 1), (4, .iload_n 2, 1), (5, .aload_n 0, 1), (6, .getfield 19, 3), (9, .getfield 213, 3), (12, .if_icmp .ge (18), 3), (15, .iload_n 1, 1), (16, .aload_n 0, 1), (17, .getfield 26, 3), (20, .iload_n 2, 1), (21, .iaload, 1), (22, .iadd, 1), (23, .istore_n 1, 1), (24, .iinc 2 (1), 3), (27, .goto (-23), 3), (30, .iload_n 1, 1), (31, .ireturn, 1)]
set_option maxRecDepth 20000 in
theorem D35 : tb35.all (dOk prog_1_method_34_code) = true := by decide +kernel
abbrev g36 : mG := (⟨"PlaceNets", "undo", "()I"⟩, prog_1_method_12_code, 1, (some .int), 1, 1, 0, false)
theorem G36 : mGm[36]? = some g36 := rfl
def tb36 : List (Nat × Instr × Nat) := [(0, .aload_n 0, 1), (1, .invokevirtual 91, 3), (4, .ifCond .ne (6), 3), (7, .bipush (-2), 2), (9, .ireturn, 1), (10, .aload_n 0, 1), (11, .getfield 63, 3), (14, .ifCond .ne (6), 3), (17, .bipush (-3), 2), (19, .ireturn, 1), (20, .aload_n 0, 1), (21, .dup, 1), (22, .getfield 63, 3), (25, .iconst (1), 1), (26, .isub, 1), (27, .putfield 63, 3), (30, .aload_n 0, 1), (31, .getfield 33, 3), (34, .aload_n 0, 1), (35, .getfield 63, 3), (38, .bipush (10), 2), (40, .imul, 1), (41, .aload_n 0, 1), (42, .getfield 26, 3), (45, .iconst (0), 1), (46, .bipush (10), 2), (48, .invokestatic 51, 3), (51, .aload_n 0, 1), (52, .dup, 1), (53, .getfield 70, 3), (56, .iconst (1), 1), (57, .iadd, 1), (58, .putfield 70, 3), (61, .aload_n 0, 1), (62, .getfield 63, 3), (65, .ireturn, 1)]
set_option maxRecDepth 20000 in
theorem D36 : tb36.all (dOk prog_1_method_12_code) = true := by decide +kernel
abbrev g37 : mG := (⟨"PlaceNets", "goal", "(II)I"⟩, prog_1_method_13_code, 4, (some .int), 1, 3, 0, false)
theorem G37 : mGm[37]? = some g37 := rfl
def tb37 : List (Nat × Instr × Nat) := [(0, .iload_n 2, 1), (1, .invokestatic 114, 3), (4, .ifCond .ne (5), 3), (7, .iconst (-1), 1), (8, .ireturn, 1), (9, .aload_n 0, 1), (10, .getfield 19, 3), (13, .iload_n 1, 1), (14, .invokevirtual 79, 3), (17, .ifCond .ne (6), 3), (20, .bipush (-2), 2), (22, .ireturn, 1), (23, .aload_n 0, 1), (24, .getfield 30, 3), (27, .iload_n 1, 1), (28, .iaload, 1), (29, .istore_n 3, 1), (30, .aload_n 0, 1), (31, .getfield 30, 3), (34, .iload_n 1, 1), (35, .iload_n 2, 1), (36, .iastore, 1), (37, .iload_n 3, 1), (38, .ireturn, 1)]
set_option maxRecDepth 20000 in
theorem D37 : tb37.all (dOk prog_1_method_13_code) = true := by decide +kernel
abbrev g38 : mG := (⟨"PlaceNets", "node", "(II)I"⟩, prog_1_method_14_code, 5, (some .int), 1, 3, 0, false)
theorem G38 : mGm[38]? = some g38 := rfl
def tb38 : List (Nat × Instr × Nat) := [(0, .iload_n 1, 1), (1, .iconst (-1), 1), (2, .if_icmp .ne (15), 3), (5, .iload_n 2, 1), (6, .ifCond .ne (7), 3), (9, .iconst (1), 1), (10, .goto (35), 3), (13, .iconst (0), 1), (14, .goto (31), 3), (17, .aload_n 0, 1), (18, .getfield 19, 3), (21, .iload_n 2, 1), (22, .invokevirtual 79, 3), (25, .ifCond .ne (15), 3), (28, .iload_n 2, 1), (29, .bipush (10), 2), (31, .if_icmp .lt (13), 3), (34, .iload_n 2, 1), (35, .bipush (12), 2), (37, .if_icmp .gt (7), 3), (40, .iconst (1), 1), (41, .goto (4), 3), (44, .iconst (0), 1), (45, .istore_n 3, 1), (46, .aload_n 0, 1), (47, .invokevirtual 91, 3), (50, .ifCond .eq (12), 3), (53, .iload_n 1, 1), (54, .iconst (-1), 1), (55, .if_icmp .lt (7), 3), (58, .iload_n 3, 1), (59, .ifCond .ne (5), 3), (62, .iconst (-1), 1), (63, .ireturn, 1), (64, .aload_n 0, 1), (65, .invokevirtual 127, 3), (68, .astore 4, 2), (70, .aload 4, 2), (72, .getfield 131, 3), (75, .ifCond .eq (6), 3), (78, .bipush (-2), 2), (80, .ireturn, 1), (81, .iload_n 1, 1), (82, .iconst (-1), 1), (83, .if_icmp .ne (11), 3), (86, .aload 4, 2), (88, .getfield 137, 3), (91, .goto (10), 3), (94, .aload 4, 2), (96, .iload_n 1, 1), (97, .iload_n 2, 1), (98, .invokevirtual 140, 3), (101, .ireturn, 1)]
set_option maxRecDepth 20000 in
theorem D38 : tb38.all (dOk prog_1_method_14_code) = true := by decide +kernel
abbrev g39 : mG := (⟨"PlaceNets", "coverNow", "()LPlaceNets$Cover;"⟩, prog_1_method_37_code, 1, (some (.object "PlaceNets$Cover")), 1, 1, 0, false)
theorem G39 : mGm[39]? = some g39 := rfl
def tb39 : List (Nat × Instr × Nat) := [(0, .aload_n 0, 1), (1, .getfield 267, 3), (4, .ifnonnull (14), 3), (7, .aload_n 0, 1), (8, .new 132, 3), (11, .dup, 1), (12, .invokespecial 271, 3), (15, .putfield 267, 3), (18, .aload_n 0, 1), (19, .getfield 267, 3), (22, .getfield 272, 3), (25, .aload_n 0, 1), (26, .getfield 70, 3), (29, .if_icmp .eq (29), 3), (32, .aload_n 0, 1), (33, .getfield 267, 3), (36, .aload_n 0, 1), (37, .getfield 19, 3), (40, .aload_n 0, 1), (41, .getfield 26, 3), (44, .invokevirtual 275, 3), (47, .aload_n 0, 1), (48, .getfield 267, 3), (51, .aload_n 0, 1), (52, .getfield 70, 3), (55, .putfield 272, 3), (58, .aload_n 0, 1), (59, .getfield 267, 3), (62, .areturn, 1)]
set_option maxRecDepth 20000 in
theorem D39 : tb39.all (dOk prog_1_method_37_code) = true := by decide +kernel
abbrev g51 : mG := (⟨"PlaceNets", "bound", "(I)I"⟩, prog_1_method_15_code, 3, (some .int), 1, 2, 0, false)
theorem G51 : mGm[51]? = some g51 := rfl
def tb51 : List (Nat × Instr × Nat) := [(0, .aload_n 0, 1), (1, .getfield 19, 3), (4, .iload_n 1, 1), (5, .invokevirtual 79, 3), (8, .ifCond .ne (5), 3), (11, .iconst (-1), 1), (12, .ireturn, 1), (13, .aload_n 0, 1), (14, .invokevirtual 127, 3), (17, .astore_n 2, 1), (18, .aload_n 2, 1), (19, .getfield 131, 3), (22, .ifCond .eq (8), 3), (25, .bipush (-2), 2), (27, .goto (8), 3), (30, .aload_n 2, 1), (31, .iload_n 1, 1), (32, .invokevirtual 143, 3), (35, .ireturn, 1)]
set_option maxRecDepth 20000 in
theorem D51 : tb51.all (dOk prog_1_method_15_code) = true := by decide +kernel
abbrev g53 : mG := (⟨"PlaceNets", "covers", "(I)I"⟩, prog_1_method_16_code, 3, (some .int), 1, 2, 0, false)
theorem G53 : mGm[53]? = some g53 := rfl
def tb53 : List (Nat × Instr × Nat) := [(0, .aload_n 0, 1), (1, .invokevirtual 91, 3), (4, .ifCond .eq (12), 3), (7, .iload_n 1, 1), (8, .ifCond .lt (8), 3), (11, .iload_n 1, 1), (12, .iconst (1), 1), (13, .if_icmp .le (5), 3), (16, .iconst (-1), 1), (17, .ireturn, 1), (18, .aload_n 0, 1), (19, .invokevirtual 127, 3), (22, .astore_n 2, 1), (23, .aload_n 2, 1), (24, .getfield 131, 3), (27, .ifCond .eq (6), 3), (30, .bipush (-2), 2), (32, .ireturn, 1), (33, .iload_n 1, 1), (34, .ifCond .ne (14), 3), (37, .aload_n 2, 1), (38, .aload_n 0, 1), (39, .getfield 30, 3), (42, .invokevirtual 146, 3), (45, .goto (11), 3), (48, .aload_n 2, 1), (49, .aload_n 0, 1), (50, .getfield 30, 3), (53, .invokevirtual 149, 3), (56, .ireturn, 1)]
set_option maxRecDepth 20000 in
theorem D53 : tb53.all (dOk prog_1_method_16_code) = true := by decide +kernel
abbrev g57 : mG := (⟨"PlaceNets", "reached", "(II)I"⟩, prog_1_method_17_code, 5, (some .int), 1, 3, 0, false)
theorem G57 : mGm[57]? = some g57 := rfl
def tb57 : List (Nat × Instr × Nat) := [(0, .iload_n 1, 1), (1, .iconst (-1), 1), (2, .if_icmp .ne (15), 3), (5, .iload_n 2, 1), (6, .ifCond .ne (7), 3), (9, .iconst (1), 1), (10, .goto (35), 3), (13, .iconst (0), 1), (14, .goto (31), 3), (17, .aload_n 0, 1), (18, .getfield 19, 3), (21, .iload_n 2, 1), (22, .invokevirtual 79, 3), (25, .ifCond .ne (15), 3), (28, .iload_n 2, 1), (29, .bipush (10), 2), (31, .if_icmp .eq (9), 3), (34, .iload_n 2, 1), (35, .bipush (11), 2), (37, .if_icmp .ne (7), 3), (40, .iconst (1), 1), (41, .goto (4), 3), (44, .iconst (0), 1), (45, .istore_n 3, 1), (46, .aload_n 0, 1), (47, .invokevirtual 91, 3), (50, .ifCond .eq (12), 3), (53, .iload_n 1, 1), (54, .iconst (-1), 1), (55, .if_icmp .lt (7), 3), (58, .iload_n 3, 1), (59, .ifCond .ne (5), 3), (62, .iconst (-1), 1), (63, .ireturn, 1), (64, .aload_n 0, 1), (65, .invokevirtual 152, 3), (68, .astore 4, 2), (70, .aload 4, 2), (72, .getfield 156, 3), (75, .ifCond .eq (6), 3), (78, .bipush (-2), 2), (80, .ireturn, 1), (81, .iload_n 1, 1), (82, .iconst (-1), 1), (83, .if_icmp .ne (11), 3), (86, .aload 4, 2), (88, .getfield 159, 3), (91, .goto (10), 3), (94, .aload 4, 2), (96, .iload_n 1, 1), (97, .iload_n 2, 1), (98, .invokevirtual 162, 3), (101, .ireturn, 1)]
set_option maxRecDepth 20000 in
theorem D57 : tb57.all (dOk prog_1_method_17_code) = true := by decide +kernel
abbrev g58 : mG := (⟨"PlaceNets", "reachNow", "()LPlaceNets$Reach;"⟩, prog_1_method_38_code, 1, (some (.object "PlaceNets$Reach")), 1, 1, 0, false)
theorem G58 : mGm[58]? = some g58 := rfl
def tb58 : List (Nat × Instr × Nat) := [(0, .aload_n 0, 1), (1, .getfield 279, 3), (4, .ifnonnull (14), 3), (7, .aload_n 0, 1), (8, .new 157, 3), (11, .dup, 1), (12, .invokespecial 283, 3), (15, .putfield 279, 3), (18, .aload_n 0, 1), (19, .getfield 279, 3), (22, .getfield 284, 3), (25, .aload_n 0, 1), (26, .getfield 70, 3), (29, .if_icmp .eq (29), 3), (32, .aload_n 0, 1), (33, .getfield 279, 3), (36, .aload_n 0, 1), (37, .getfield 19, 3), (40, .aload_n 0, 1), (41, .getfield 26, 3), (44, .invokevirtual 285, 3), (47, .aload_n 0, 1), (48, .getfield 279, 3), (51, .aload_n 0, 1), (52, .getfield 70, 3), (55, .putfield 284, 3), (58, .aload_n 0, 1), (59, .getfield 279, 3), (62, .areturn, 1)]
set_option maxRecDepth 20000 in
theorem D58 : tb58.all (dOk prog_1_method_38_code) = true := by decide +kernel
abbrev g69 : mG := (⟨"PlaceNets", "dead", "(I)I"⟩, prog_1_method_18_code, 3, (some .int), 1, 2, 0, false)
theorem G69 : mGm[69]? = some g69 := rfl
def tb69 : List (Nat × Instr × Nat) := [(0, .aload_n 0, 1), (1, .invokevirtual 91, 3), (4, .ifCond .eq (12), 3), (7, .iload_n 1, 1), (8, .ifCond .lt (8), 3), (11, .iload_n 1, 1), (12, .iconst (3), 1), (13, .if_icmp .le (5), 3), (16, .iconst (-1), 1), (17, .ireturn, 1), (18, .aload_n 0, 1), (19, .invokevirtual 152, 3), (22, .astore_n 2, 1), (23, .aload_n 2, 1), (24, .getfield 156, 3), (27, .ifCond .eq (6), 3), (30, .bipush (-2), 2), (32, .ireturn, 1), (33, .iload_n 1, 1), (34, .tableswitch (43) (0) (2) #[(26), (31), (36)], 26), (60, .aload_n 2, 1), (61, .invokevirtual 163, 3), (64, .ireturn, 1), (65, .aload_n 2, 1), (66, .invokevirtual 166, 3), (69, .ireturn, 1), (70, .aload_n 2, 1), (71, .bipush (10), 2), (73, .invokevirtual 169, 3), (76, .ireturn, 1), (77, .aload_n 2, 1), (78, .bipush (11), 2), (80, .invokevirtual 169, 3), (83, .ireturn, 1)]
set_option maxRecDepth 20000 in
theorem D69 : tb69.all (dOk prog_1_method_18_code) = true := by decide +kernel
abbrev g73 : mG := (⟨"PlaceNets", "alive", "(I)I"⟩, prog_1_method_19_code, 3, (some .int), 1, 2, 0, false)
theorem G73 : mGm[73]? = some g73 := rfl
def tb73 : List (Nat × Instr × Nat) := [(0, .aload_n 0, 1), (1, .getfield 19, 3), (4, .iload_n 1, 1), (5, .invokevirtual 76, 3), (8, .ifCond .ne (5), 3), (11, .iconst (-1), 1), (12, .ireturn, 1), (13, .aload_n 0, 1), (14, .invokevirtual 152, 3), (17, .astore_n 2, 1), (18, .aload_n 2, 1), (19, .getfield 156, 3), (22, .ifCond .eq (8), 3), (25, .bipush (-2), 2), (27, .goto (8), 3), (30, .aload_n 2, 1), (31, .iload_n 1, 1), (32, .invokevirtual 172, 3), (35, .ireturn, 1)]
set_option maxRecDepth 20000 in
theorem D73 : tb73.all (dOk prog_1_method_19_code) = true := by decide +kernel
abbrev g75 : mG := (⟨"PlaceNets", "way", "(I)I"⟩, prog_1_method_20_code, 4, (some .int), 1, 2, 0, false)
theorem G75 : mGm[75]? = some g75 := rfl
def tb75 : List (Nat × Instr × Nat) := [(0, .aload_n 0, 1), (1, .invokevirtual 91, 3), (4, .ifCond .eq (8), 3), (7, .iload_n 1, 1), (8, .iconst (-1), 1), (9, .if_icmp .ge (5), 3), (12, .iconst (-1), 1), (13, .ireturn, 1), (14, .aload_n 0, 1), (15, .invokevirtual 152, 3), (18, .astore_n 2, 1), (19, .aload_n 2, 1), (20, .getfield 156, 3), (23, .ifCond .eq (6), 3), (26, .bipush (-2), 2), (28, .ireturn, 1), (29, .aload_n 2, 1), (30, .aload_n 0, 1), (31, .getfield 30, 3), (34, .invokevirtual 175, 3), (37, .istore_n 3, 1), (38, .iload_n 3, 1), (39, .iconst (-1), 1), (40, .if_icmp .ne (6), 3), (43, .bipush (-3), 2), (45, .ireturn, 1), (46, .iload_n 1, 1), (47, .iconst (-1), 1), (48, .if_icmp .ne (12), 3), (51, .aload_n 2, 1), (52, .getfield 178, 3), (55, .iload_n 3, 1), (56, .iaload, 1), (57, .goto (9), 3), (60, .aload_n 2, 1), (61, .iload_n 3, 1), (62, .iload_n 1, 1), (63, .invokevirtual 181, 3), (66, .ireturn, 1)]
set_option maxRecDepth 20000 in
theorem D75 : tb75.all (dOk prog_1_method_20_code) = true := by decide +kernel
abbrev g77 : mG := (⟨"PlaceNets", "flow", "(III)I"⟩, prog_1_method_21_code, 6, (some .int), 1, 4, 0, false)
theorem G77 : mGm[77]? = some g77 := rfl
def tb77 : List (Nat × Instr × Nat) := [(0, .iload_n 2, 1), (1, .iconst (-1), 1), (2, .if_icmp .eq (32), 3), (5, .iload_n 1, 1), (6, .ifCond .ne (17), 3), (9, .aload_n 0, 1), (10, .getfield 19, 3), (13, .iload_n 3, 1), (14, .invokevirtual 79, 3), (17, .ifCond .eq (21), 3), (20, .goto (14), 3), (23, .aload_n 0, 1), (24, .getfield 19, 3), (27, .iload_n 3, 1), (28, .invokevirtual 76, 3), (31, .ifCond .eq (7), 3), (34, .iconst (1), 1), (35, .goto (4), 3), (38, .iconst (0), 1), (39, .istore 4, 2), (41, .aload_n 0, 1), (42, .invokevirtual 91, 3), (45, .ifCond .eq (22), 3), (48, .iload_n 1, 1), (49, .ifCond .lt (18), 3), (52, .iload_n 1, 1), (53, .iconst (1), 1), (54, .if_icmp .gt (13), 3), (57, .iload_n 2, 1), (58, .iconst (-1), 1), (59, .if_icmp .lt (8), 3), (62, .iload 4, 2), (64, .ifCond .ne (5), 3), (67, .iconst (-1), 1), (68, .ireturn, 1), (69, .aload_n 0, 1), (70, .iload_n 1, 1), (71, .invokevirtual 184, 3), (74, .astore 5, 2), (76, .aload 5, 2), (78, .getfield 188, 3), (81, .ifCond .eq (6), 3), (84, .bipush (-2), 2), (86, .ireturn, 1), (87, .iload_n 2, 1), (88, .iconst (-1), 1), (89, .if_icmp .ne (11), 3), (92, .aload 5, 2), (94, .getfield 193, 3), (97, .goto (10), 3), (100, .aload 5, 2), (102, .iload_n 2, 1), (103, .iload_n 3, 1), (104, .invokevirtual 194, 3), (107, .ireturn, 1)]
set_option maxRecDepth 20000 in
theorem D77 : tb77.all (dOk prog_1_method_21_code) = true := by decide +kernel
abbrev g78 : mG := (⟨"PlaceNets", "flowsNow", "(I)LPlaceNets$Flows;"⟩, prog_1_method_39_code, 2, (some (.object "PlaceNets$Flows")), 1, 2, 0, false)
theorem G78 : mGm[78]? = some g78 := rfl
def tb78 : List (Nat × Instr × Nat) := [(0, .iload_n 1, 1), (1, .ifCond .ne (10), 3), (4, .aload_n 0, 1), (5, .invokevirtual 195, 3), (8, .goto (7), 3), (11, .aload_n 0, 1), (12, .invokevirtual 286, 3), (15, .areturn, 1)]
set_option maxRecDepth 20000 in
theorem D78 : tb78.all (dOk prog_1_method_39_code) = true := by decide +kernel
abbrev g79 : mG := (⟨"PlaceNets", "placeFlowsNow", "()LPlaceNets$Flows;"⟩, prog_1_method_40_code, 1, (some (.object "PlaceNets$Flows")), 1, 1, 0, false)
theorem G79 : mGm[79]? = some g79 := rfl
def tb79 : List (Nat × Instr × Nat) := [(0, .aload_n 0, 1), (1, .getfield 289, 3), (4, .ifnonnull (15), 3), (7, .aload_n 0, 1), (8, .new 189, 3), (11, .dup, 1), (12, .iconst (1), 1), (13, .invokespecial 293, 3), (16, .putfield 289, 3), (19, .aload_n 0, 1), (20, .getfield 289, 3), (23, .getfield 296, 3), (26, .aload_n 0, 1), (27, .getfield 67, 3), (30, .if_icmp .eq (25), 3), (33, .aload_n 0, 1), (34, .getfield 289, 3), (37, .aload_n 0, 1), (38, .getfield 19, 3), (41, .invokevirtual 297, 3), (44, .aload_n 0, 1), (45, .getfield 289, 3), (48, .aload_n 0, 1), (49, .getfield 67, 3), (52, .putfield 296, 3), (55, .aload_n 0, 1), (56, .getfield 289, 3), (59, .areturn, 1)]
set_option maxRecDepth 20000 in
theorem D79 : tb79.all (dOk prog_1_method_40_code) = true := by decide +kernel
abbrev g92 : mG := (⟨"PlaceNets", "transitionFlowsNow", "()LPlaceNets$Flows;"⟩, prog_1_method_41_code, 1, (some (.object "PlaceNets$Flows")), 1, 1, 0, false)
theorem G92 : mGm[92]? = some g92 := rfl
def tb92 : List (Nat × Instr × Nat) := [(0, .aload_n 0, 1), (1, .getfield 300, 3), (4, .ifnonnull (15), 3), (7, .aload_n 0, 1), (8, .new 189, 3), (11, .dup, 1), (12, .iconst (0), 1), (13, .invokespecial 293, 3), (16, .putfield 300, 3), (19, .aload_n 0, 1), (20, .getfield 300, 3), (23, .getfield 296, 3), (26, .aload_n 0, 1), (27, .getfield 67, 3), (30, .if_icmp .eq (25), 3), (33, .aload_n 0, 1), (34, .getfield 300, 3), (37, .aload_n 0, 1), (38, .getfield 19, 3), (41, .invokevirtual 297, 3), (44, .aload_n 0, 1), (45, .getfield 300, 3), (48, .aload_n 0, 1), (49, .getfield 67, 3), (52, .putfield 296, 3), (55, .aload_n 0, 1), (56, .getfield 300, 3), (59, .areturn, 1)]
set_option maxRecDepth 20000 in
theorem D92 : tb92.all (dOk prog_1_method_41_code) = true := by decide +kernel
abbrev g94 : mG := (⟨"PlaceNets", "kept", "(I)I"⟩, prog_1_method_22_code, 3, (some .int), 1, 2, 0, false)
theorem G94 : mGm[94]? = some g94 := rfl
def tb94 : List (Nat × Instr × Nat) := [(0, .aload_n 0, 1), (1, .invokevirtual 91, 3), (4, .ifCond .eq (7), 3), (7, .iload_n 1, 1), (8, .ifCond .ge (5), 3), (11, .iconst (-1), 1), (12, .ireturn, 1), (13, .aload_n 0, 1), (14, .invokevirtual 195, 3), (17, .astore_n 2, 1), (18, .aload_n 2, 1), (19, .getfield 188, 3), (22, .ifCond .eq (8), 3), (25, .bipush (-2), 2), (27, .goto (12), 3), (30, .aload_n 2, 1), (31, .iload_n 1, 1), (32, .aload_n 0, 1), (33, .getfield 26, 3), (36, .invokevirtual 199, 3), (39, .ireturn, 1)]
set_option maxRecDepth 20000 in
theorem D94 : tb94.all (dOk prog_1_method_22_code) = true := by decide +kernel
abbrev g96 : mG := (⟨"PlaceNets", "least", "(II)I"⟩, prog_1_method_23_code, 4, (some .int), 1, 3, 0, false)
theorem G96 : mGm[96]? = some g96 := rfl
def tb96 : List (Nat × Instr × Nat) := [(0, .aload_n 0, 1), (1, .invokevirtual 91, 3), (4, .ifCond .eq (17), 3), (7, .iload_n 1, 1), (8, .ifCond .lt (13), 3), (11, .iload_n 1, 1), (12, .iconst (1), 1), (13, .if_icmp .gt (8), 3), (16, .iload_n 2, 1), (17, .iconst (-1), 1), (18, .if_icmp .ge (5), 3), (21, .iconst (-1), 1), (22, .ireturn, 1), (23, .aload_n 0, 1), (24, .invokevirtual 203, 3), (27, .astore_n 3, 1), (28, .iload_n 2, 1), (29, .iconst (-1), 1), (30, .if_icmp .ne (11), 3), (33, .aload_n 3, 1), (34, .iload_n 1, 1), (35, .invokevirtual 207, 3), (38, .goto (9), 3), (41, .aload_n 3, 1), (42, .iload_n 1, 1), (43, .iload_n 2, 1), (44, .invokevirtual 212, 3), (47, .ireturn, 1)]
set_option maxRecDepth 20000 in
theorem D96 : tb96.all (dOk prog_1_method_23_code) = true := by decide +kernel
abbrev g97 : mG := (⟨"PlaceNets", "setsNow", "()LPlaceNets$Sets;"⟩, prog_1_method_42_code, 1, (some (.object "PlaceNets$Sets")), 1, 1, 0, false)
theorem G97 : mGm[97]? = some g97 := rfl
def tb97 : List (Nat × Instr × Nat) := [(0, .aload_n 0, 1), (1, .getfield 303, 3), (4, .ifnonnull (14), 3), (7, .aload_n 0, 1), (8, .new 208, 3), (11, .dup, 1), (12, .invokespecial 307, 3), (15, .putfield 303, 3), (18, .aload_n 0, 1), (19, .getfield 303, 3), (22, .getfield 308, 3), (25, .aload_n 0, 1), (26, .getfield 67, 3), (29, .if_icmp .eq (25), 3), (32, .aload_n 0, 1), (33, .getfield 303, 3), (36, .aload_n 0, 1), (37, .getfield 19, 3), (40, .invokevirtual 309, 3), (43, .aload_n 0, 1), (44, .getfield 303, 3), (47, .aload_n 0, 1), (48, .getfield 67, 3), (51, .putfield 308, 3), (54, .aload_n 0, 1), (55, .getfield 303, 3), (58, .areturn, 1)]
set_option maxRecDepth 20000 in
theorem D97 : tb97.all (dOk prog_1_method_42_code) = true := by decide +kernel
abbrev g108 : mG := (⟨"PlaceNets", "trapIn", "(I)I"⟩, prog_1_method_24_code, 2, (some .int), 1, 2, 0, false)
theorem G108 : mGm[108]? = some g108 := rfl
def tb108 : List (Nat × Instr × Nat) := [(0, .aload_n 0, 1), (1, .invokevirtual 91, 3), (4, .ifCond .eq (20), 3), (7, .iload_n 1, 1), (8, .ifCond .lt (16), 3), (11, .iload_n 1, 1), (12, .iconst (1), 1), (13, .aload_n 0, 1), (14, .getfield 19, 3), (17, .getfield 213, 3), (20, .ishl, 1), (21, .if_icmp .lt (5), 3), (24, .iconst (-1), 1), (25, .ireturn, 1), (26, .aload_n 0, 1), (27, .invokevirtual 203, 3), (30, .iload_n 1, 1), (31, .invokevirtual 216, 3), (34, .ireturn, 1)]
set_option maxRecDepth 20000 in
theorem D108 : tb108.all (dOk prog_1_method_24_code) = true := by decide +kernel
abbrev g110 : mG := (⟨"PlaceNets", "kinds", "()I"⟩, prog_1_method_25_code, 1, (some .int), 1, 1, 0, false)
theorem G110 : mGm[110]? = some g110 := rfl
def tb110 : List (Nat × Instr × Nat) := [(0, .aload_n 0, 1), (1, .invokevirtual 91, 3), (4, .ifCond .ne (5), 3), (7, .iconst (-1), 1), (8, .ireturn, 1), (9, .aload_n 0, 1), (10, .getfield 19, 3), (13, .invokevirtual 219, 3), (16, .ifCond .eq (7), 3), (19, .iconst (1), 1), (20, .goto (4), 3), (23, .iconst (0), 1), (24, .aload_n 0, 1), (25, .getfield 19, 3), (28, .invokevirtual 222, 3), (31, .ifCond .eq (7), 3), (34, .iconst (2), 1), (35, .goto (4), 3), (38, .iconst (0), 1), (39, .iadd, 1), (40, .aload_n 0, 1), (41, .getfield 19, 3), (44, .invokevirtual 225, 3), (47, .ifCond .eq (7), 3), (50, .iconst (4), 1), (51, .goto (4), 3), (54, .iconst (0), 1), (55, .iadd, 1), (56, .aload_n 0, 1), (57, .getfield 19, 3), (60, .invokevirtual 228, 3), (63, .ifCond .eq (8), 3), (66, .bipush (8), 2), (68, .goto (4), 3), (71, .iconst (0), 1), (72, .iadd, 1), (73, .aload_n 0, 1), (74, .getfield 19, 3), (77, .invokevirtual 231, 3), (80, .ifCond .eq (8), 3), (83, .bipush (16), 2), (85, .goto (4), 3), (88, .iconst (0), 1), (89, .iadd, 1), (90, .ireturn, 1)]
set_option maxRecDepth 20000 in
theorem D110 : tb110.all (dOk prog_1_method_25_code) = true := by decide +kernel
abbrev g117 : mG := (⟨"PlaceNets", "caught", "()I"⟩, prog_1_method_26_code, 1, (some .int), 1, 1, 0, false)
theorem G117 : mGm[117]? = some g117 := rfl
def tb117 : List (Nat × Instr × Nat) := [(0, .aload_n 0, 1), (1, .invokevirtual 91, 3), (4, .ifCond .ne (5), 3), (7, .iconst (-1), 1), (8, .ireturn, 1), (9, .aload_n 0, 1), (10, .invokevirtual 203, 3), (13, .aload_n 0, 1), (14, .getfield 26, 3), (17, .invokevirtual 234, 3), (20, .ifCond .eq (7), 3), (23, .iconst (1), 1), (24, .goto (4), 3), (27, .iconst (0), 1), (28, .ireturn, 1)]
set_option maxRecDepth 20000 in
theorem D117 : tb117.all (dOk prog_1_method_26_code) = true := by decide +kernel
abbrev g120 : mG := (⟨"PlaceNets", "event", "(II)I"⟩, prog_1_method_27_code, 5, (some .int), 1, 3, 0, false)
theorem G120 : mGm[120]? = some g120 := rfl
def tb120 : List (Nat × Instr × Nat) := [(0, .iload_n 1, 1), (1, .iconst (-1), 1), (2, .if_icmp .ne (15), 3), (5, .iload_n 2, 1), (6, .ifCond .ne (7), 3), (9, .iconst (1), 1), (10, .goto (16), 3), (13, .iconst (0), 1), (14, .goto (12), 3), (17, .iload_n 2, 1), (18, .ifCond .lt (7), 3), (21, .iconst (1), 1), (22, .goto (4), 3), (25, .iconst (0), 1), (26, .istore_n 3, 1), (27, .aload_n 0, 1), (28, .invokevirtual 91, 3), (31, .ifCond .eq (12), 3), (34, .iload_n 1, 1), (35, .iconst (-1), 1), (36, .if_icmp .lt (7), 3), (39, .iload_n 3, 1), (40, .ifCond .ne (5), 3), (43, .iconst (-1), 1), (44, .ireturn, 1), (45, .aload_n 0, 1), (46, .invokevirtual 238, 3), (49, .astore 4, 2), (51, .aload 4, 2), (53, .getfield 242, 3), (56, .ifCond .eq (6), 3), (59, .bipush (-2), 2), (61, .ireturn, 1), (62, .iload_n 1, 1), (63, .iconst (-1), 1), (64, .if_icmp .ne (11), 3), (67, .aload 4, 2), (69, .getfield 245, 3), (72, .goto (10), 3), (75, .aload 4, 2), (77, .iload_n 1, 1), (78, .iload_n 2, 1), (79, .invokevirtual 248, 3), (82, .ireturn, 1)]
set_option maxRecDepth 20000 in
theorem D120 : tb120.all (dOk prog_1_method_27_code) = true := by decide +kernel
abbrev g121 : mG := (⟨"PlaceNets", "unfoldingNow", "()LPlaceNets$Unfolding;"⟩, prog_1_method_43_code, 1, (some (.object "PlaceNets$Unfolding")), 1, 1, 0, false)
theorem G121 : mGm[121]? = some g121 := rfl
def tb121 : List (Nat × Instr × Nat) := [(0, .aload_n 0, 1), (1, .getfield 310, 3), (4, .ifnonnull (14), 3), (7, .aload_n 0, 1), (8, .new 243, 3), (11, .dup, 1), (12, .invokespecial 314, 3), (15, .putfield 310, 3), (18, .aload_n 0, 1), (19, .getfield 310, 3), (22, .getfield 315, 3), (25, .aload_n 0, 1), (26, .getfield 70, 3), (29, .if_icmp .eq (29), 3), (32, .aload_n 0, 1), (33, .getfield 310, 3), (36, .aload_n 0, 1), (37, .getfield 19, 3), (40, .aload_n 0, 1), (41, .getfield 26, 3), (44, .invokevirtual 316, 3), (47, .aload_n 0, 1), (48, .getfield 310, 3), (51, .aload_n 0, 1), (52, .getfield 70, 3), (55, .putfield 315, 3), (58, .aload_n 0, 1), (59, .getfield 310, 3), (62, .areturn, 1)]
set_option maxRecDepth 20000 in
theorem D121 : tb121.all (dOk prog_1_method_43_code) = true := by decide +kernel
abbrev g141 : mG := (⟨"PlaceNets", "condition", "(II)I"⟩, prog_1_method_28_code, 5, (some .int), 1, 3, 0, false)
theorem G141 : mGm[141]? = some g141 := rfl
def tb141 : List (Nat × Instr × Nat) := [(0, .iload_n 1, 1), (1, .iconst (-1), 1), (2, .if_icmp .ne (15), 3), (5, .iload_n 2, 1), (6, .ifCond .ne (7), 3), (9, .iconst (1), 1), (10, .goto (21), 3), (13, .iconst (0), 1), (14, .goto (17), 3), (17, .iload_n 2, 1), (18, .ifCond .eq (8), 3), (21, .iload_n 2, 1), (22, .iconst (1), 1), (23, .if_icmp .ne (7), 3), (26, .iconst (1), 1), (27, .goto (4), 3), (30, .iconst (0), 1), (31, .istore_n 3, 1), (32, .aload_n 0, 1), (33, .invokevirtual 91, 3), (36, .ifCond .eq (12), 3), (39, .iload_n 1, 1), (40, .iconst (-1), 1), (41, .if_icmp .lt (7), 3), (44, .iload_n 3, 1), (45, .ifCond .ne (5), 3), (48, .iconst (-1), 1), (49, .ireturn, 1), (50, .aload_n 0, 1), (51, .invokevirtual 238, 3), (54, .astore 4, 2), (56, .aload 4, 2), (58, .getfield 242, 3), (61, .ifCond .eq (6), 3), (64, .bipush (-2), 2), (66, .ireturn, 1), (67, .iload_n 1, 1), (68, .iconst (-1), 1), (69, .if_icmp .ne (11), 3), (72, .aload 4, 2), (74, .getfield 251, 3), (77, .goto (10), 3), (80, .aload 4, 2), (82, .iload_n 1, 1), (83, .iload_n 2, 1), (84, .invokevirtual 254, 3), (87, .ireturn, 1)]
set_option maxRecDepth 20000 in
theorem D141 : tb141.all (dOk prog_1_method_28_code) = true := by decide +kernel
abbrev g143 : mG := (⟨"PlaceNets", "atOnce", "(II)I"⟩, prog_1_method_29_code, 4, (some .int), 1, 3, 0, false)
theorem G143 : mGm[143]? = some g143 := rfl
def tb143 : List (Nat × Instr × Nat) := [(0, .aload_n 0, 1), (1, .invokevirtual 91, 3), (4, .ifCond .eq (11), 3), (7, .iload_n 1, 1), (8, .ifCond .lt (7), 3), (11, .iload_n 2, 1), (12, .ifCond .ge (5), 3), (15, .iconst (-1), 1), (16, .ireturn, 1), (17, .aload_n 0, 1), (18, .invokevirtual 238, 3), (21, .astore_n 3, 1), (22, .aload_n 3, 1), (23, .getfield 242, 3), (26, .ifCond .eq (6), 3), (29, .bipush (-2), 2), (31, .ireturn, 1), (32, .iload_n 1, 1), (33, .aload_n 3, 1), (34, .getfield 251, 3), (37, .if_icmp .ge (11), 3), (40, .iload_n 2, 1), (41, .aload_n 3, 1), (42, .getfield 251, 3), (45, .if_icmp .lt (5), 3), (48, .iconst (-1), 1), (49, .ireturn, 1), (50, .aload_n 3, 1), (51, .iload_n 1, 1), (52, .iload_n 2, 1), (53, .invokevirtual 257, 3), (56, .ifCond .eq (7), 3), (59, .iconst (1), 1), (60, .goto (4), 3), (63, .iconst (0), 1), (64, .ireturn, 1)]
set_option maxRecDepth 20000 in
theorem D143 : tb143.all (dOk prog_1_method_29_code) = true := by decide +kernel
abbrev g144 : mG := (⟨"PlaceNets", "leaves", "(II)I"⟩, prog_1_method_30_code, 4, (some .int), 1, 3, 0, false)
theorem G144 : mGm[144]? = some g144 := rfl
def tb144 : List (Nat × Instr × Nat) := [(0, .aload_n 0, 1), (1, .getfield 19, 3), (4, .iload_n 2, 1), (5, .invokevirtual 79, 3), (8, .ifCond .eq (7), 3), (11, .iload_n 1, 1), (12, .ifCond .ge (5), 3), (15, .iconst (-1), 1), (16, .ireturn, 1), (17, .aload_n 0, 1), (18, .invokevirtual 238, 3), (21, .astore_n 3, 1), (22, .aload_n 3, 1), (23, .getfield 242, 3), (26, .ifCond .eq (6), 3), (29, .bipush (-2), 2), (31, .ireturn, 1), (32, .iload_n 1, 1), (33, .aload_n 3, 1), (34, .getfield 245, 3), (37, .if_icmp .ge (17), 3), (40, .aload_n 3, 1), (41, .getfield 261, 3), (44, .iload_n 1, 1), (45, .bipush (10), 2), (47, .imul, 1), (48, .iload_n 2, 1), (49, .iadd, 1), (50, .iaload, 1), (51, .goto (4), 3), (54, .iconst (-1), 1), (55, .ireturn, 1)]
set_option maxRecDepth 20000 in
theorem D144 : tb144.all (dOk prog_1_method_30_code) = true := by decide +kernel
abbrev g145 : mG := (⟨"PlaceNets", "count", "(I)I"⟩, prog_1_method_31_code, 2, (some .int), 1, 2, 0, false)
theorem G145 : mGm[145]? = some g145 := rfl
def tb145 : List (Nat × Instr × Nat) := [(0, .iload_n 1, 1), (1, .tableswitch (69) (0) (4) #[(35), (43), (51), (56), (64)], 35), (36, .aload_n 0, 1), (37, .getfield 19, 3), (40, .getfield 213, 3), (43, .ireturn, 1), (44, .aload_n 0, 1), (45, .getfield 19, 3), (48, .getfield 73, 3), (51, .ireturn, 1), (52, .aload_n 0, 1), (53, .invokevirtual 123, 3), (56, .ireturn, 1), (57, .aload_n 0, 1), (58, .getfield 10, 3), (61, .getfield 264, 3), (64, .ireturn, 1), (65, .aload_n 0, 1), (66, .getfield 63, 3), (69, .ireturn, 1), (70, .iconst (-1), 1), (71, .ireturn, 1)]
set_option maxRecDepth 20000 in
theorem D145 : tb145.all (dOk prog_1_method_31_code) = true := by decide +kernel
-- PlaceNets.sign.(I)I, from 0
set_option maxRecDepth 20000 in
theorem bk4_0 {d b : Nat} {Q : Option Value → mMem → Prop} {m : mMem} {x0 : Nat} {x1 : Int32} (hT : mWT m) (hOx0 : m.1 x0 = some (.inr 0) ∧ x0 ≠ 0)
    (h : ∃ (r_1 : Nat), (m.2.1 x0 0 = .ref r_1) ∧ ((m.1 r_1 = some (.inr 1) ∧ r_1 ≠ 0) ∧ (mEv d 5 [.ref r_1, .int x1] m (fun r m' => mEs d 4 b g4 (8, [some (.ref x0), some (.int x1)], r.toList ++ [], m') Q)))) :
    mEs d 4 b g4 (0, [some (.ref x0), some (.int x1)], [], m) Q := by
  refine e_aload_n (pc' := 1) (dAt D4 0 rfl) rfl rfl ?_
  obtain ⟨r_1, f1, f_2, h⟩ := h
  refine e_getfield (pc' := 4) (dAt D4 1 rfl) rfl rfl hOx0 f1 ?_
  refine e_iload_n (pc' := 5) (dAt D4 2 rfl) rfl rfl ?_
  exact e_call2 h (dAt D4 3 rfl) (hi0 rfl) rfl G5 (by decide) rfl (Nat.le_of_ble_eq_true rfl) (kV f_2 rfl rfl) rfl rfl
-- PlaceNets.sign.(I)I, from 8
set_option maxRecDepth 20000 in
theorem bk4_8 {d b : Nat} {Q : Option Value → mMem → Prop} {m : mMem} {x0 : Nat} {x1 : Int32} {y0 : Int32} (hT : mWT m) (hOx0 : m.1 x0 = some (.inr 0) ∧ x0 ≠ 0)
    (h : Q (some (.int y0)) m) :
    mEs d 4 b g4 (8, [some (.ref x0), some (.int x1)], [.int y0], m) Q := by
  exact e_ireturn (dAt D4 4 rfl) rfl ⟨rfl, fun e => by cases e⟩ h
-- PlaceNets.end.(I)Z, from 0
set_option maxRecDepth 20000 in
theorem bk6_0 {d b : Nat} {Q : Option Value → mMem → Prop} {m : mMem} {x0 : Nat} {x1 : Int32} (hT : mWT m) (hOx0 : m.1 x0 = some (.inr 0) ∧ x0 ≠ 0)
    (h : ∃ (r_1 : Nat), (m.2.1 x0 0 = .ref r_1) ∧ ((m.1 r_1 = some (.inr 1) ∧ r_1 ≠ 0) ∧ (mEv d 7 [.ref r_1, .int x1] m (fun r m' => mEs d 6 b g6 (8, [some (.ref x0), some (.int x1)], r.toList ++ [], m') Q)))) :
    mEs d 6 b g6 (0, [some (.ref x0), some (.int x1)], [], m) Q := by
  refine e_aload_n (pc' := 1) (dAt D6 0 rfl) rfl rfl ?_
  obtain ⟨r_1, f1, f_2, h⟩ := h
  refine e_getfield (pc' := 4) (dAt D6 1 rfl) rfl rfl hOx0 f1 ?_
  refine e_iload_n (pc' := 5) (dAt D6 2 rfl) rfl rfl ?_
  exact e_call2 h (dAt D6 3 rfl) (hi0 rfl) rfl G7 (by decide) rfl (Nat.le_of_ble_eq_true rfl) (kV f_2 rfl rfl) rfl rfl
-- PlaceNets.end.(I)Z, from 8
set_option maxRecDepth 20000 in
theorem bk6_8 {d b : Nat} {Q : Option Value → mMem → Prop} {m : mMem} {x0 : Nat} {x1 : Int32} {y0 : Int32} (hT : mWT m) (hOx0 : m.1 x0 = some (.inr 0) ∧ x0 ≠ 0)
    (h : (y0 = 0 ∨ y0 = 1) ∧ (Q (some (.int y0)) m)) :
    mEs d 6 b g6 (8, [some (.ref x0), some (.int x1)], [.int y0], m) Q := by
  obtain ⟨f1, h⟩ := h
  exact e_ireturn (dAt D6 4 rfl) rfl ⟨nb01 f1, fun e => by cases e⟩ h
-- PlaceNets.net.()I, from 0
set_option maxRecDepth 20000 in
theorem bk8_0 {d b : Nat} {Q : Option Value → mMem → Prop} {m : mMem} {x0 : Nat} {x1 : Option Value} {x2 : Option Value} (hT : mWT m) (hOx0 : m.1 x0 = some (.inr 0) ∧ x0 ≠ 0)
    (h : ∃ (r_1 : Nat), (m.2.1 x0 0 = .ref r_1) ∧ ((m.1 r_1 = some (.inr 1) ∧ r_1 ≠ 0) ∧ (∃ (r_3 : Nat), (m.2.1 x0 2 = .ref r_3) ∧ ((m.1 r_3 = some (.inr 2) ∧ r_3 ≠ 0) ∧ (mEv d 9 [.ref r_1, .ref r_3] m (fun r m' => mEs d 8 b g8 (11, [some (.ref x0), x1, x2], r.toList ++ [], m') Q)))))) :
    mEs d 8 b g8 (0, [some (.ref x0), x1, x2], [], m) Q := by
  refine e_aload_n (pc' := 1) (dAt D8 0 rfl) rfl rfl ?_
  obtain ⟨r_1, f1, f_2, h⟩ := h
  refine e_getfield (pc' := 4) (dAt D8 1 rfl) rfl rfl hOx0 f1 ?_
  refine e_aload_n (pc' := 5) (dAt D8 2 rfl) rfl rfl ?_
  obtain ⟨r_3, f1, f_4, h⟩ := h
  refine e_getfield (pc' := 8) (dAt D8 3 rfl) rfl rfl hOx0 f1 ?_
  exact e_call2 h (dAt D8 4 rfl) (hi0 rfl) rfl G9 (by decide) rfl (Nat.le_of_ble_eq_true rfl) (kV f_2 rfl rfl) rfl rfl
-- PlaceNets.net.()I, from 11
set_option maxRecDepth 20000 in
theorem bk8_11 {d b : Nat} {Q : Option Value → mMem → Prop} {m : mMem} {x0 : Nat} {x1 : Option Value} {x2 : Option Value} {y0 : Int32} (hT : mWT m) (hOx0 : m.1 x0 = some (.inr 0) ∧ x0 ≠ 0)
    (h : ∃ (r_1 : Nat), (m.2.1 x0 0 = .ref r_1) ∧ ((m.1 r_1 = some (.inr 1) ∧ r_1 ≠ 0) ∧ (mEv d 7 [.ref r_1, .int 0] m (fun r m' => mEs d 8 b g8 (20, [some (.ref x0), some (.int y0), x2], r.toList ++ [], m') Q)))) :
    mEs d 8 b g8 (11, [some (.ref x0), x1, x2], [.int y0], m) Q := by
  refine e_istore_n (pc' := 12) (dAt D8 5 rfl) rfl (Nat.le_of_ble_eq_true rfl) rfl ?_
  refine e_aload_n (pc' := 13) (dAt D8 6 rfl) rfl rfl ?_
  obtain ⟨r_1, f1, f_2, h⟩ := h
  refine e_getfield (pc' := 16) (dAt D8 7 rfl) rfl rfl hOx0 f1 ?_
  refine e_iconst (pc' := 17) (v := 0) (dAt D8 8 rfl) rfl (by decide) ?_
  exact e_call2 h (dAt D8 9 rfl) (hi0 rfl) rfl G7 (by decide) rfl (Nat.le_of_ble_eq_true rfl) (kV f_2 rfl rfl) rfl rfl
-- PlaceNets.net.()I, from 20
set_option maxRecDepth 20000 in
theorem bk8_20 {d b : Nat} {Q : Option Value → mMem → Prop} {m : mMem} {x0 : Nat} {x1 : Int32} {x2 : Option Value} {y0 : Int32} (hT : mWT m) (hOx0 : m.1 x0 = some (.inr 0) ∧ x0 ≠ 0) (hd1 : 1 ≤ d)
    (h : (((x1 = ((-1))) → (∃ (r_1 : Nat), (m.2.1 x0 1 = .ref r_1) ∧ ((m.1 r_1 = some (.inr 2) ∧ r_1 ≠ 0) ∧ (∃ (r_3 : Nat), (m.2.1 x0 2 = .ref r_3) ∧ ((m.1 r_3 = some (.inr 2) ∧ r_3 ≠ 0) ∧ (∀ (m_5 : mMem), m_5 = (mSetF m x0 1 (.ref r_3)) → ∀ (m_7 : mMem), m_7 = (mSetF m_5 x0 2 (.ref r_1)) → ∃ (r_9 : Nat), (m_7.2.1 x0 1 = .ref r_9) ∧ ((m_7.1 r_9 = some (.inr 2) ∧ r_9 ≠ 0) ∧ ((¬ (0 : Int32) < 0 ∧ ¬ (0 : Int32) < 0 ∧ ¬ (10 : Int32) < 0 ∧ (0 : Int32).toNatClampNeg + (10 : Int32).toNatClampNeg ≤ 10 ∧ (0 : Int32).toNatClampNeg + (10 : Int32).toNatClampNeg ≤ 10) ∧ (∀ (m_11 : mMem), m_11 = (mSetI m_7 (64 * x0 + 4) (va_cpy (m_7.2.2.1 (64 * r_9 + 1)) (m_7.2.2.1 (64 * x0 + 4)) (0 : Int32).toNatClampNeg (0 : Int32).toNatClampNeg (10 : Int32).toNatClampNeg)) → mEv d 11 [.ref (64 * x0 + 5), .int 0] m_11 (fun r m' => mEs d 8 b g8 (76, [some (.ref x0), some (.int x1), some (.ref r_1)], r.toList ++ [], m') Q)))))))))) ∧ (¬ (x1 = ((-1))) → (Q (some (.int (((-1000)) - x1))) m)))) :
    mEs d 8 b g8 (20, [some (.ref x0), some (.int x1), x2], [.int y0], m) Q := by
  refine e_pop (pc' := 21) (dAt D8 10 rfl) rfl rfl ?_
  refine e_iload_n (pc' := 22) (dAt D8 11 rfl) rfl rfl ?_
  refine e_iconst (pc' := 23) (v := (-1)) (dAt D8 12 rfl) rfl (by decide) ?_
  refine e_icmp_eq (t := 32) (pc' := 26) (dAt D8 13 rfl) ⟨by decide, by decide⟩ rfl (fun c => ?_) (fun c => ?_)
  · replace h := h.1 c
    refine e_aload_n (pc' := 33) (dAt D8 18 rfl) rfl rfl ?_
    obtain ⟨r_1, f1, f_2, h⟩ := h
    refine e_getfield (pc' := 36) (dAt D8 19 rfl) rfl rfl hOx0 f1 ?_
    refine e_astore_n (pc' := 37) (dAt D8 20 rfl) rfl (Nat.le_of_ble_eq_true rfl) rfl ?_
    refine e_aload_n (pc' := 38) (dAt D8 21 rfl) rfl rfl ?_
    refine e_aload_n (pc' := 39) (dAt D8 22 rfl) rfl rfl ?_
    obtain ⟨r_3, f1, f_4, h⟩ := h
    refine e_getfield (pc' := 42) (dAt D8 23 rfl) rfl rfl hOx0 f1 ?_
    replace h := h _ rfl
    refine e_putfield (pc' := 45) (dAt D8 24 rfl) rfl rfl hOx0 rfl rfl (fun e => by cases e) ?_
    refine wtR hT hOx0 (by decide) (by decide) (fun hT_6 => ?_)
    refine e_aload_n (pc' := 46) (dAt D8 25 rfl) rfl rfl ?_
    refine e_aload_n (pc' := 47) (dAt D8 26 rfl) rfl rfl ?_
    replace h := h _ rfl
    refine e_putfield (pc' := 50) (dAt D8 27 rfl) rfl rfl hOx0 rfl rfl (fun e => by cases e) ?_
    refine wtR hT_6 hOx0 (by decide) (by decide) (fun hT_8 => ?_)
    refine e_aload_n (pc' := 51) (dAt D8 28 rfl) rfl rfl ?_
    obtain ⟨r_9, f1, f_10, h⟩ := h
    refine e_getfield (pc' := 54) (dAt D8 29 rfl) rfl rfl hOx0 f1 ?_
    refine e_getfield (pc' := 57) (dAt D8 30 rfl) rfl rfl f_10 (hT_8.own f_10 0 rfl) ?_
    refine e_iconst (pc' := 58) (v := 0) (dAt D8 31 rfl) rfl (by decide) ?_
    refine e_aload_n (pc' := 59) (dAt D8 32 rfl) rfl rfl ?_
    refine e_getfield (pc' := 62) (dAt D8 33 rfl) rfl rfl hOx0 (hT_8.own hOx0 0 rfl) ?_
    refine e_iconst (pc' := 63) (v := 0) (dAt D8 34 rfl) rfl (by decide) ?_
    refine e_bipush (pc' := 65) (v := 10) (dAt D8 35 rfl) rfl (by decide) ?_
    obtain ⟨f1, h⟩ := h
    replace h := h _ rfl
    refine e_copy (pc' := 68) (dAt D8 36 rfl) rfl rfl (hT_8.arr f_10 0 rfl (by decide)) (hT_8.arr hOx0 0 rfl (by decide)) f1 ⟨hd1, Nat.le_of_ble_eq_true rfl⟩ ?_
    refine wtI hT_8 (fun hT_12 => ?_)
    refine e_aload_n (pc' := 69) (dAt D8 37 rfl) rfl rfl ?_
    refine e_getfield (pc' := 72) (dAt D8 38 rfl) rfl rfl hOx0 (hT_12.own hOx0 1 rfl) ?_
    refine e_iconst (pc' := 73) (v := 0) (dAt D8 39 rfl) rfl (by decide) ?_
    exact e_call2 h (dAt D8 40 rfl) (hi2 rfl) rfl G11 (by decide) rfl (Nat.le_of_ble_eq_true rfl) rfl rfl rfl
  · replace h := h.2 c
    refine e_sipush (pc' := 29) (v := (-1000)) (dAt D8 14 rfl) rfl (by decide) ?_
    refine e_iload_n (pc' := 30) (dAt D8 15 rfl) rfl rfl ?_
    refine e_isub (pc' := 31) (dAt D8 16 rfl) rfl ?_
    exact e_ireturn (dAt D8 17 rfl) rfl ⟨rfl, fun e => by cases e⟩ h
-- PlaceNets.net.()I, from 76
set_option maxRecDepth 20000 in
theorem bk8_76 {d b : Nat} {Q : Option Value → mMem → Prop} {m : mMem} {x0 : Nat} {x1 : Int32} {x2 : Nat} (hT : mWT m) (hOx0 : m.1 x0 = some (.inr 0) ∧ x0 ≠ 0) (hOx2 : m.1 x2 = some (.inr 2) ∧ x2 ≠ 0)
    (h : ∀ (m_1 : mMem), m_1 = (mSetF m x0 6 (.int 0)) → ∀ (m_3 : mMem), m_3 = (mSetF m_1 x0 7 (.int ((iF m_1 x0 7) + 1))) → ∀ (m_5 : mMem), m_5 = (mSetF m_3 x0 8 (.int ((iF m_3 x0 8) + 1))) → ∃ (r_7 : Nat), (m_5.2.1 x0 1 = .ref r_7) ∧ ((m_5.1 r_7 = some (.inr 2) ∧ r_7 ≠ 0) ∧ (Q (some (.int (iF m_5 r_7 1))) m_5))) :
    mEs d 8 b g8 (76, [some (.ref x0), some (.int x1), some (.ref x2)], [], m) Q := by
  refine e_aload_n (pc' := 77) (dAt D8 41 rfl) rfl rfl ?_
  refine e_iconst (pc' := 78) (v := 0) (dAt D8 42 rfl) rfl (by decide) ?_
  replace h := h _ rfl
  refine e_putfield (pc' := 81) (dAt D8 43 rfl) rfl rfl hOx0 rfl rfl (fun e => by cases e) ?_
  refine wtF hT hOx0 (by decide) (fun hT_2 => ?_)
  refine e_aload_n (pc' := 82) (dAt D8 44 rfl) rfl rfl ?_
  refine e_dup (pc' := 83) (dAt D8 45 rfl) rfl rfl ?_
  refine e_getfield (pc' := 86) (dAt D8 46 rfl) rfl rfl hOx0 (hT_2.int hOx0 7 (by decide)) ?_
  refine e_iconst (pc' := 87) (v := 1) (dAt D8 47 rfl) rfl (by decide) ?_
  refine e_iadd (pc' := 88) (dAt D8 48 rfl) rfl ?_
  replace h := h _ rfl
  refine e_putfield (pc' := 91) (dAt D8 49 rfl) rfl rfl hOx0 rfl rfl (fun e => by cases e) ?_
  refine wtF hT_2 hOx0 (by decide) (fun hT_4 => ?_)
  refine e_aload_n (pc' := 92) (dAt D8 50 rfl) rfl rfl ?_
  refine e_dup (pc' := 93) (dAt D8 51 rfl) rfl rfl ?_
  refine e_getfield (pc' := 96) (dAt D8 52 rfl) rfl rfl hOx0 (hT_4.int hOx0 8 (by decide)) ?_
  refine e_iconst (pc' := 97) (v := 1) (dAt D8 53 rfl) rfl (by decide) ?_
  refine e_iadd (pc' := 98) (dAt D8 54 rfl) rfl ?_
  replace h := h _ rfl
  refine e_putfield (pc' := 101) (dAt D8 55 rfl) rfl rfl hOx0 rfl rfl (fun e => by cases e) ?_
  refine wtF hT_4 hOx0 (by decide) (fun hT_6 => ?_)
  refine e_aload_n (pc' := 102) (dAt D8 56 rfl) rfl rfl ?_
  obtain ⟨r_7, f1, f_8, h⟩ := h
  refine e_getfield (pc' := 105) (dAt D8 57 rfl) rfl rfl hOx0 f1 ?_
  refine e_getfield (pc' := 108) (dAt D8 58 rfl) rfl rfl f_8 (hT_6.int f_8 1 (by decide)) ?_
  exact e_ireturn (dAt D8 59 rfl) rfl ⟨rfl, fun e => by cases e⟩ h
-- PlaceNets.tokens.(II)I, from 0
set_option maxRecDepth 20000 in
theorem bk18_0 {d b : Nat} {Q : Option Value → mMem → Prop} {m : mMem} {x0 : Nat} {x1 : Int32} {x2 : Int32} (hT : mWT m) (hOx0 : m.1 x0 = some (.inr 0) ∧ x0 ≠ 0)
    (h : ∃ (r_1 : Nat), (m.2.1 x0 1 = .ref r_1) ∧ ((m.1 r_1 = some (.inr 2) ∧ r_1 ≠ 0) ∧ (mEv d 19 [.ref r_1, .int x1] m (fun r m' => mEs d 18 b g18 (8, [some (.ref x0), some (.int x1), some (.int x2)], r.toList ++ [], m') Q)))) :
    mEs d 18 b g18 (0, [some (.ref x0), some (.int x1), some (.int x2)], [], m) Q := by
  refine e_aload_n (pc' := 1) (dAt D18 0 rfl) rfl rfl ?_
  obtain ⟨r_1, f1, f_2, h⟩ := h
  refine e_getfield (pc' := 4) (dAt D18 1 rfl) rfl rfl hOx0 f1 ?_
  refine e_iload_n (pc' := 5) (dAt D18 2 rfl) rfl rfl ?_
  exact e_call2 h (dAt D18 3 rfl) (hi0 rfl) rfl G19 (by decide) rfl (Nat.le_of_ble_eq_true rfl) (kV f_2 rfl rfl) rfl rfl
-- PlaceNets.tokens.(II)I, from 8
set_option maxRecDepth 20000 in
theorem bk18_8 {d b : Nat} {Q : Option Value → mMem → Prop} {m : mMem} {x0 : Nat} {x1 : Int32} {x2 : Int32} {y0 : Int32} (hT : mWT m) (hOx0 : m.1 x0 = some (.inr 0) ∧ x0 ≠ 0)
    (h : (((¬ y0 = 0) → ((x2 = 0 → ((mIn x1 10 = true) ∧ (Q (some (.int (m.2.2.1 (64 * x0 + 4) x1.toNatClampNeg))) m))) ∧ (¬ x2 = 0 → ((x2 = 1 → (∃ (r_1 : Nat), (m.2.1 x0 1 = .ref r_1) ∧ ((m.1 r_1 = some (.inr 2) ∧ r_1 ≠ 0) ∧ ((mIn x1 10 = true) ∧ (Q (some (.int (m.2.2.1 (64 * r_1 + 1) x1.toNatClampNeg))) m))))) ∧ (¬ x2 = 1 → ((x2 = 2 → ((mIn x1 10 = true) ∧ (Q (some (.int (m.2.2.1 (64 * x0 + 5) x1.toNatClampNeg))) m))) ∧ (¬ x2 = 2 → (Q (some (.int ((-1)))) m)))))))) ∧ (¬ (¬ y0 = 0) → (Q (some (.int ((-1)))) m)))) :
    mEs d 18 b g18 (8, [some (.ref x0), some (.int x1), some (.int x2)], [.int y0], m) Q := by
  refine e_if_ne (t := 13) (pc' := 11) (dAt D18 4 rfl) ⟨by decide, by decide⟩ rfl (fun c => ?_) (fun c => ?_)
  · replace h := h.1 c
    refine e_iload_n (pc' := 14) (dAt D18 7 rfl) rfl rfl ?_
    refine vc_if h (fun c0 h => ?_) (fun c0 h => ?_)
    · refine e_tableswitch (off := 26) (t := 40) (dAt D18 8 rfl) (by rw [c0]; rfl) ⟨by decide, by decide⟩ ?_
      refine e_aload_n (pc' := 41) (dAt D18 9 rfl) rfl rfl ?_
      refine e_getfield (pc' := 44) (dAt D18 10 rfl) rfl rfl hOx0 (hT.own hOx0 0 rfl) ?_
      refine e_iload_n (pc' := 45) (dAt D18 11 rfl) rfl rfl ?_
      obtain ⟨f1, h⟩ := h
      refine e_iaload (pc' := 46) (dAt D18 12 rfl) rfl (hT.arr hOx0 0 rfl (by decide)).1 (Or.inl (hT.arr hOx0 0 rfl (by decide)).2) f1 rfl ?_
      exact e_ireturn (dAt D18 13 rfl) rfl ⟨rfl, fun e => by cases e⟩ h
    · skip
      refine vc_if h (fun c1 h => ?_) (fun c1 h => ?_)
      · refine e_tableswitch (off := 33) (t := 47) (dAt D18 8 rfl) (by rw [c1]; rfl) ⟨by decide, by decide⟩ ?_
        refine e_aload_n (pc' := 48) (dAt D18 14 rfl) rfl rfl ?_
        obtain ⟨r_1, f1, f_2, h⟩ := h
        refine e_getfield (pc' := 51) (dAt D18 15 rfl) rfl rfl hOx0 f1 ?_
        refine e_getfield (pc' := 54) (dAt D18 16 rfl) rfl rfl f_2 (hT.own f_2 0 rfl) ?_
        refine e_iload_n (pc' := 55) (dAt D18 17 rfl) rfl rfl ?_
        obtain ⟨f1, h⟩ := h
        refine e_iaload (pc' := 56) (dAt D18 18 rfl) rfl (hT.arr f_2 0 rfl (by decide)).1 (Or.inl (hT.arr f_2 0 rfl (by decide)).2) f1 rfl ?_
        exact e_ireturn (dAt D18 19 rfl) rfl ⟨rfl, fun e => by cases e⟩ h
      · skip
        refine vc_if h (fun c2 h => ?_) (fun c2 h => ?_)
        · refine e_tableswitch (off := 43) (t := 57) (dAt D18 8 rfl) (by rw [c2]; rfl) ⟨by decide, by decide⟩ ?_
          refine e_aload_n (pc' := 58) (dAt D18 20 rfl) rfl rfl ?_
          refine e_getfield (pc' := 61) (dAt D18 21 rfl) rfl rfl hOx0 (hT.own hOx0 1 rfl) ?_
          refine e_iload_n (pc' := 62) (dAt D18 22 rfl) rfl rfl ?_
          obtain ⟨f1, h⟩ := h
          refine e_iaload (pc' := 63) (dAt D18 23 rfl) rfl (hT.arr hOx0 1 rfl (by decide)).1 (Or.inl (hT.arr hOx0 1 rfl (by decide)).2) f1 rfl ?_
          exact e_ireturn (dAt D18 24 rfl) rfl ⟨rfl, fun e => by cases e⟩ h
        · skip
          refine e_tableswitch (off := 50) (t := 64) (dAt D18 8 rfl) (if_pos (sw_out (fun k h1 h2 e => by
            have hk : k = 0 ∨ k = 1 ∨ k = 2 := by omega
            rcases hk with rfl | rfl | rfl
            · exact c0 (Int32.toInt_inj.mp (e.trans (by decide)))
            · exact c1 (Int32.toInt_inj.mp (e.trans (by decide)))
            · exact c2 (Int32.toInt_inj.mp (e.trans (by decide)))
            ))) ⟨by decide, by decide⟩ ?_
          refine e_iconst (pc' := 65) (v := (-1)) (dAt D18 25 rfl) rfl (by decide) ?_
          exact e_ireturn (dAt D18 26 rfl) rfl ⟨rfl, fun e => by cases e⟩ h
  · replace h := h.2 c
    refine e_iconst (pc' := 12) (v := (-1)) (dAt D18 5 rfl) rfl (by decide) ?_
    exact e_ireturn (dAt D18 6 rfl) rfl ⟨rfl, fun e => by cases e⟩ h
-- PlaceNets.can.()I, from 0
set_option maxRecDepth 20000 in
theorem bk20_0 {d b : Nat} {Q : Option Value → mMem → Prop} {m : mMem} {x0 : Nat} (hT : mWT m) (hOx0 : m.1 x0 = some (.inr 0) ∧ x0 ≠ 0)
    (h : mEv d 21 [.ref x0] m (fun r m' => mEs d 20 b g20 (4, [some (.ref x0)], r.toList ++ [], m') Q)) :
    mEs d 20 b g20 (0, [some (.ref x0)], [], m) Q := by
  refine e_aload_n (pc' := 1) (dAt D20 0 rfl) rfl rfl ?_
  exact e_call2 h (dAt D20 1 rfl) (hi0 rfl) rfl G21 (by decide) rfl (Nat.le_of_ble_eq_true rfl) (kV hOx0 rfl rfl) rfl rfl
-- PlaceNets.can.()I, from 4
set_option maxRecDepth 20000 in
theorem bk20_4 {d b : Nat} {Q : Option Value → mMem → Prop} {m : mMem} {x0 : Nat} {y0 : Int32} (hT : mWT m) (hOx0 : m.1 x0 = some (.inr 0) ∧ x0 ≠ 0)
    (h : (((y0 = 0) → (Q (some (.int ((-1)))) m)) ∧ (¬ (y0 = 0) → (∃ (r_1 : Nat), (m.2.1 x0 1 = .ref r_1) ∧ ((m.1 r_1 = some (.inr 2) ∧ r_1 ≠ 0) ∧ (mEv d 22 [.ref r_1, .ref (64 * x0 + 4)] m (fun r m' => mEs d 20 b g20 (18, [some (.ref x0)], r.toList ++ [], m') Q))))))) :
    mEs d 20 b g20 (4, [some (.ref x0)], [.int y0], m) Q := by
  refine e_if_eq (t := 21) (pc' := 7) (dAt D20 2 rfl) ⟨by decide, by decide⟩ rfl (fun c => ?_) (fun c => ?_)
  · replace h := h.1 c
    refine e_iconst (pc' := 22) (v := (-1)) (dAt D20 9 rfl) rfl (by decide) ?_
    exact e_ireturn (dAt D20 10 rfl) rfl ⟨rfl, fun e => by cases e⟩ h
  · replace h := h.2 c
    refine e_aload_n (pc' := 8) (dAt D20 3 rfl) rfl rfl ?_
    obtain ⟨r_1, f1, f_2, h⟩ := h
    refine e_getfield (pc' := 11) (dAt D20 4 rfl) rfl rfl hOx0 f1 ?_
    refine e_aload_n (pc' := 12) (dAt D20 5 rfl) rfl rfl ?_
    refine e_getfield (pc' := 15) (dAt D20 6 rfl) rfl rfl hOx0 (hT.own hOx0 0 rfl) ?_
    exact e_call2 h (dAt D20 7 rfl) (hi0 rfl) rfl G22 (by decide) rfl (Nat.le_of_ble_eq_true rfl) (kV f_2 rfl rfl) rfl rfl
-- PlaceNets.can.()I, from 18
set_option maxRecDepth 20000 in
theorem bk20_18 {d b : Nat} {Q : Option Value → mMem → Prop} {m : mMem} {x0 : Nat} {y0 : Int32} (hT : mWT m) (hOx0 : m.1 x0 = some (.inr 0) ∧ x0 ≠ 0)
    (h : Q (some (.int y0)) m) :
    mEs d 20 b g20 (18, [some (.ref x0)], [.int y0], m) Q := by
  refine e_goto (t := 22) (dAt D20 8 rfl) ⟨by decide, by decide⟩ ?_
  exact e_ireturn (dAt D20 10 rfl) rfl ⟨rfl, fun e => by cases e⟩ h
-- PlaceNets.hasNet.()Z, from 0
set_option maxRecDepth 20000 in
theorem bk21_0 {d b : Nat} {Q : Option Value → mMem → Prop} {m : mMem} {x0 : Nat} (hT : mWT m) (hOx0 : m.1 x0 = some (.inr 0) ∧ x0 ≠ 0)
    (h : ∃ (r_1 : Nat), (m.2.1 x0 1 = .ref r_1) ∧ ((m.1 r_1 = some (.inr 2) ∧ r_1 ≠ 0) ∧ ((((iF m r_1 0) ≤ 0) → (Q (some (.int 0)) m)) ∧ (¬ ((iF m r_1 0) ≤ 0) → (Q (some (.int 1)) m))))) :
    mEs d 21 b g21 (0, [some (.ref x0)], [], m) Q := by
  refine e_aload_n (pc' := 1) (dAt D21 0 rfl) rfl rfl ?_
  obtain ⟨r_1, f1, f_2, h⟩ := h
  refine e_getfield (pc' := 4) (dAt D21 1 rfl) rfl rfl hOx0 f1 ?_
  refine e_getfield (pc' := 7) (dAt D21 2 rfl) rfl rfl f_2 (hT.int f_2 0 (by decide)) ?_
  refine e_if_le (t := 14) (pc' := 10) (dAt D21 3 rfl) ⟨by decide, by decide⟩ rfl (fun c => ?_) (fun c => ?_)
  · replace h := h.1 c
    refine e_iconst (pc' := 15) (v := 0) (dAt D21 6 rfl) rfl (by decide) ?_
    exact e_ireturn (dAt D21 7 rfl) rfl ⟨rfl, fun e => by cases e⟩ h
  · replace h := h.2 c
    refine e_iconst (pc' := 11) (v := 1) (dAt D21 4 rfl) rfl (by decide) ?_
    refine e_goto (t := 15) (dAt D21 5 rfl) ⟨by decide, by decide⟩ ?_
    exact e_ireturn (dAt D21 7 rfl) rfl ⟨rfl, fun e => by cases e⟩ h
-- PlaceNets.fire.(I)I, from 0
set_option maxRecDepth 20000 in
theorem bk24_0 {d b : Nat} {Q : Option Value → mMem → Prop} {m : mMem} {x0 : Nat} {x1 : Int32} (hT : mWT m) (hOx0 : m.1 x0 = some (.inr 0) ∧ x0 ≠ 0)
    (h : ∃ (r_1 : Nat), (m.2.1 x0 1 = .ref r_1) ∧ ((m.1 r_1 = some (.inr 2) ∧ r_1 ≠ 0) ∧ (mEv d 25 [.ref r_1, .int x1] m (fun r m' => mEs d 24 b g24 (8, [some (.ref x0), some (.int x1)], r.toList ++ [], m') Q)))) :
    mEs d 24 b g24 (0, [some (.ref x0), some (.int x1)], [], m) Q := by
  refine e_aload_n (pc' := 1) (dAt D24 0 rfl) rfl rfl ?_
  obtain ⟨r_1, f1, f_2, h⟩ := h
  refine e_getfield (pc' := 4) (dAt D24 1 rfl) rfl rfl hOx0 f1 ?_
  refine e_iload_n (pc' := 5) (dAt D24 2 rfl) rfl rfl ?_
  exact e_call2 h (dAt D24 3 rfl) (hi0 rfl) rfl G25 (by decide) rfl (Nat.le_of_ble_eq_true rfl) (kV f_2 rfl rfl) rfl rfl
-- PlaceNets.fire.(I)I, from 8
set_option maxRecDepth 20000 in
theorem bk24_8 {d b : Nat} {Q : Option Value → mMem → Prop} {m : mMem} {x0 : Nat} {x1 : Int32} {y0 : Int32} (hT : mWT m) (hOx0 : m.1 x0 = some (.inr 0) ∧ x0 ≠ 0)
    (h : (((¬ y0 = 0) → (∃ (r_1 : Nat), (m.2.1 x0 1 = .ref r_1) ∧ ((m.1 r_1 = some (.inr 2) ∧ r_1 ≠ 0) ∧ (mEv d 23 [.ref r_1, .ref (64 * x0 + 4), .int x1] m (fun r m' => mEs d 24 b g24 (26, [some (.ref x0), some (.int x1)], r.toList ++ [], m') Q))))) ∧ (¬ (¬ y0 = 0) → (Q (some (.int ((-2)))) m)))) :
    mEs d 24 b g24 (8, [some (.ref x0), some (.int x1)], [.int y0], m) Q := by
  refine e_if_ne (t := 14) (pc' := 11) (dAt D24 4 rfl) ⟨by decide, by decide⟩ rfl (fun c => ?_) (fun c => ?_)
  · replace h := h.1 c
    refine e_aload_n (pc' := 15) (dAt D24 7 rfl) rfl rfl ?_
    obtain ⟨r_1, f1, f_2, h⟩ := h
    refine e_getfield (pc' := 18) (dAt D24 8 rfl) rfl rfl hOx0 f1 ?_
    refine e_aload_n (pc' := 19) (dAt D24 9 rfl) rfl rfl ?_
    refine e_getfield (pc' := 22) (dAt D24 10 rfl) rfl rfl hOx0 (hT.own hOx0 0 rfl) ?_
    refine e_iload_n (pc' := 23) (dAt D24 11 rfl) rfl rfl ?_
    exact e_call2 h (dAt D24 12 rfl) (hi0 rfl) rfl G23 (by decide) rfl (Nat.le_of_ble_eq_true rfl) (kV f_2 rfl rfl) rfl rfl
  · replace h := h.2 c
    refine e_bipush (pc' := 13) (v := (-2)) (dAt D24 5 rfl) rfl (by decide) ?_
    exact e_ireturn (dAt D24 6 rfl) rfl ⟨rfl, fun e => by cases e⟩ h
-- PlaceNets.fire.(I)I, from 26
set_option maxRecDepth 20000 in
theorem bk24_26 {d b : Nat} {Q : Option Value → mMem → Prop} {m : mMem} {x0 : Nat} {x1 : Int32} {y0 : Int32} (hT : mWT m) (hOx0 : m.1 x0 = some (.inr 0) ∧ x0 ≠ 0)
    (h : (((¬ y0 = 0) → (mEv d 26 [.ref x0] m (fun r m' => mEs d 24 b g24 (36, [some (.ref x0), some (.int x1)], r.toList ++ [], m') Q))) ∧ (¬ (¬ y0 = 0) → (Q (some (.int ((-3)))) m)))) :
    mEs d 24 b g24 (26, [some (.ref x0), some (.int x1)], [.int y0], m) Q := by
  refine e_if_ne (t := 32) (pc' := 29) (dAt D24 13 rfl) ⟨by decide, by decide⟩ rfl (fun c => ?_) (fun c => ?_)
  · replace h := h.1 c
    refine e_aload_n (pc' := 33) (dAt D24 16 rfl) rfl rfl ?_
    exact e_call2 h (dAt D24 17 rfl) (hi0 rfl) rfl G26 (by decide) rfl (Nat.le_of_ble_eq_true rfl) (kV hOx0 rfl rfl) rfl rfl
  · replace h := h.2 c
    refine e_bipush (pc' := 31) (v := (-3)) (dAt D24 14 rfl) rfl (by decide) ?_
    exact e_ireturn (dAt D24 15 rfl) rfl ⟨rfl, fun e => by cases e⟩ h
-- PlaceNets.fire.(I)I, from 36
set_option maxRecDepth 20000 in
theorem bk24_36 {d b : Nat} {Q : Option Value → mMem → Prop} {m : mMem} {x0 : Nat} {x1 : Int32} (hT : mWT m) (hOx0 : m.1 x0 = some (.inr 0) ∧ x0 ≠ 0)
    (h : ∃ (r_1 : Nat), (m.2.1 x0 1 = .ref r_1) ∧ ((m.1 r_1 = some (.inr 2) ∧ r_1 ≠ 0) ∧ (mEv d 27 [.ref r_1, .ref (64 * x0 + 4), .int x1] m (fun r m' => mEs d 24 b g24 (48, [some (.ref x0), some (.int x1)], r.toList ++ [], m') Q)))) :
    mEs d 24 b g24 (36, [some (.ref x0), some (.int x1)], [], m) Q := by
  refine e_aload_n (pc' := 37) (dAt D24 18 rfl) rfl rfl ?_
  obtain ⟨r_1, f1, f_2, h⟩ := h
  refine e_getfield (pc' := 40) (dAt D24 19 rfl) rfl rfl hOx0 f1 ?_
  refine e_aload_n (pc' := 41) (dAt D24 20 rfl) rfl rfl ?_
  refine e_getfield (pc' := 44) (dAt D24 21 rfl) rfl rfl hOx0 (hT.own hOx0 0 rfl) ?_
  refine e_iload_n (pc' := 45) (dAt D24 22 rfl) rfl rfl ?_
  exact e_call2 h (dAt D24 23 rfl) (hi0 rfl) rfl G27 (by decide) rfl (Nat.le_of_ble_eq_true rfl) (kV f_2 rfl rfl) rfl rfl
-- PlaceNets.fire.(I)I, from 48
set_option maxRecDepth 20000 in
theorem bk24_48 {d b : Nat} {Q : Option Value → mMem → Prop} {m : mMem} {x0 : Nat} {x1 : Int32} (hT : mWT m) (hOx0 : m.1 x0 = some (.inr 0) ∧ x0 ≠ 0)
    (h : ∃ (r_1 : Nat), (m.2.1 x0 1 = .ref r_1) ∧ ((m.1 r_1 = some (.inr 2) ∧ r_1 ≠ 0) ∧ (mEv d 22 [.ref r_1, .ref (64 * x0 + 4)] m (fun r m' => mEs d 24 b g24 (59, [some (.ref x0), some (.int x1)], r.toList ++ [], m') Q)))) :
    mEs d 24 b g24 (48, [some (.ref x0), some (.int x1)], [], m) Q := by
  refine e_aload_n (pc' := 49) (dAt D24 24 rfl) rfl rfl ?_
  obtain ⟨r_1, f1, f_2, h⟩ := h
  refine e_getfield (pc' := 52) (dAt D24 25 rfl) rfl rfl hOx0 f1 ?_
  refine e_aload_n (pc' := 53) (dAt D24 26 rfl) rfl rfl ?_
  refine e_getfield (pc' := 56) (dAt D24 27 rfl) rfl rfl hOx0 (hT.own hOx0 0 rfl) ?_
  exact e_call2 h (dAt D24 28 rfl) (hi0 rfl) rfl G22 (by decide) rfl (Nat.le_of_ble_eq_true rfl) (kV f_2 rfl rfl) rfl rfl
-- PlaceNets.fire.(I)I, from 59
set_option maxRecDepth 20000 in
theorem bk24_59 {d b : Nat} {Q : Option Value → mMem → Prop} {m : mMem} {x0 : Nat} {x1 : Int32} {y0 : Int32} (hT : mWT m) (hOx0 : m.1 x0 = some (.inr 0) ∧ x0 ≠ 0)
    (h : mEv d 29 [.int y0] m (fun r m' => mEs d 24 b g24 (62, [some (.ref x0), some (.int x1)], r.toList ++ [], m') Q)) :
    mEs d 24 b g24 (59, [some (.ref x0), some (.int x1)], [.int y0], m) Q := by
  exact e_call2 h (dAt D24 29 rfl) (hi2 rfl) rfl G29 (by decide) rfl (Nat.le_of_ble_eq_true rfl) rfl rfl rfl
-- PlaceNets.fire.(I)I, from 62
set_option maxRecDepth 20000 in
theorem bk24_62 {d b : Nat} {Q : Option Value → mMem → Prop} {m : mMem} {x0 : Nat} {x1 : Int32} {y0 : Int32} (hT : mWT m) (hOx0 : m.1 x0 = some (.inr 0) ∧ x0 ≠ 0)
    (h : Q (some (.int y0)) m) :
    mEs d 24 b g24 (62, [some (.ref x0), some (.int x1)], [.int y0], m) Q := by
  exact e_ireturn (dAt D24 30 rfl) rfl ⟨rfl, fun e => by cases e⟩ h
-- PlaceNets.keepAct.()V, from 0
set_option maxRecDepth 20000 in
theorem bk26_0 {d b : Nat} {Q : Option Value → mMem → Prop} {m : mMem} {x0 : Nat} (hT : mWT m) (hOx0 : m.1 x0 = some (.inr 0) ∧ x0 ≠ 0) (hd1 : 1 ≤ d)
    (h : (((¬ (iF m x0 6) = 10) → ((¬ (0 : Int32) < 0 ∧ ¬ ((iF m x0 6) * 10) < 0 ∧ ¬ (10 : Int32) < 0 ∧ (0 : Int32).toNatClampNeg + (10 : Int32).toNatClampNeg ≤ 10 ∧ ((iF m x0 6) * 10).toNatClampNeg + (10 : Int32).toNatClampNeg ≤ 100) ∧ (∀ (m_1 : mMem), m_1 = (mSetI m (64 * x0 + 6) (va_cpy (m.2.2.1 (64 * x0 + 4)) (m.2.2.1 (64 * x0 + 6)) (0 : Int32).toNatClampNeg ((iF m x0 6) * 10).toNatClampNeg (10 : Int32).toNatClampNeg)) → ∀ (m_3 : mMem), m_3 = (mSetF m_1 x0 6 (.int ((iF m_1 x0 6) + 1))) → ∀ (m_5 : mMem), m_5 = (mSetF m_3 x0 8 (.int ((iF m_3 x0 8) + 1))) → Q none m_5))) ∧ (¬ (¬ (iF m x0 6) = 10) → ((¬ (10 : Int32) < 0 ∧ ¬ (0 : Int32) < 0 ∧ ¬ (90 : Int32) < 0 ∧ (10 : Int32).toNatClampNeg + (90 : Int32).toNatClampNeg ≤ 100 ∧ (0 : Int32).toNatClampNeg + (90 : Int32).toNatClampNeg ≤ 100) ∧ (∀ (m_7 : mMem), m_7 = (mSetI m (64 * x0 + 6) (va_cpy (m.2.2.1 (64 * x0 + 6)) (m.2.2.1 (64 * x0 + 6)) (10 : Int32).toNatClampNeg (0 : Int32).toNatClampNeg (90 : Int32).toNatClampNeg)) → ∀ (m_9 : mMem), m_9 = (mSetF m_7 x0 6 (.int ((iF m_7 x0 6) - 1))) → (¬ (0 : Int32) < 0 ∧ ¬ ((iF m_9 x0 6) * 10) < 0 ∧ ¬ (10 : Int32) < 0 ∧ (0 : Int32).toNatClampNeg + (10 : Int32).toNatClampNeg ≤ 10 ∧ ((iF m_9 x0 6) * 10).toNatClampNeg + (10 : Int32).toNatClampNeg ≤ 100) ∧ (∀ (m_11 : mMem), m_11 = (mSetI m_9 (64 * x0 + 6) (va_cpy (m_9.2.2.1 (64 * x0 + 4)) (m_9.2.2.1 (64 * x0 + 6)) (0 : Int32).toNatClampNeg ((iF m_9 x0 6) * 10).toNatClampNeg (10 : Int32).toNatClampNeg)) → ∀ (m_13 : mMem), m_13 = (mSetF m_11 x0 6 (.int ((iF m_11 x0 6) + 1))) → ∀ (m_15 : mMem), m_15 = (mSetF m_13 x0 8 (.int ((iF m_13 x0 8) + 1))) → Q none m_15)))))) :
    mEs d 26 b g26 (0, [some (.ref x0)], [], m) Q := by
  refine e_aload_n (pc' := 1) (dAt D26 0 rfl) rfl rfl ?_
  refine e_getfield (pc' := 4) (dAt D26 1 rfl) rfl rfl hOx0 (hT.int hOx0 6 (by decide)) ?_
  refine e_bipush (pc' := 6) (v := 10) (dAt D26 2 rfl) rfl (by decide) ?_
  refine e_icmp_ne (t := 35) (pc' := 9) (dAt D26 3 rfl) ⟨by decide, by decide⟩ rfl (fun c => ?_) (fun c => ?_)
  · replace h := h.1 c
    refine e_aload_n (pc' := 36) (dAt D26 18 rfl) rfl rfl ?_
    refine e_getfield (pc' := 39) (dAt D26 19 rfl) rfl rfl hOx0 (hT.own hOx0 0 rfl) ?_
    refine e_iconst (pc' := 40) (v := 0) (dAt D26 20 rfl) rfl (by decide) ?_
    refine e_aload_n (pc' := 41) (dAt D26 21 rfl) rfl rfl ?_
    refine e_getfield (pc' := 44) (dAt D26 22 rfl) rfl rfl hOx0 (hT.own hOx0 2 rfl) ?_
    refine e_aload_n (pc' := 45) (dAt D26 23 rfl) rfl rfl ?_
    refine e_getfield (pc' := 48) (dAt D26 24 rfl) rfl rfl hOx0 (hT.int hOx0 6 (by decide)) ?_
    refine e_bipush (pc' := 50) (v := 10) (dAt D26 25 rfl) rfl (by decide) ?_
    refine e_imul (pc' := 51) (dAt D26 26 rfl) rfl ?_
    refine e_bipush (pc' := 53) (v := 10) (dAt D26 27 rfl) rfl (by decide) ?_
    obtain ⟨f1, h⟩ := h
    replace h := h _ rfl
    refine e_copy (pc' := 56) (dAt D26 28 rfl) rfl rfl (hT.arr hOx0 0 rfl (by decide)) (hT.arr hOx0 2 rfl (by decide)) f1 ⟨hd1, Nat.le_of_ble_eq_true rfl⟩ ?_
    refine wtI hT (fun hT_2 => ?_)
    refine e_aload_n (pc' := 57) (dAt D26 29 rfl) rfl rfl ?_
    refine e_dup (pc' := 58) (dAt D26 30 rfl) rfl rfl ?_
    refine e_getfield (pc' := 61) (dAt D26 31 rfl) rfl rfl hOx0 (hT_2.int hOx0 6 (by decide)) ?_
    refine e_iconst (pc' := 62) (v := 1) (dAt D26 32 rfl) rfl (by decide) ?_
    refine e_iadd (pc' := 63) (dAt D26 33 rfl) rfl ?_
    replace h := h _ rfl
    refine e_putfield (pc' := 66) (dAt D26 34 rfl) rfl rfl hOx0 rfl rfl (fun e => by cases e) ?_
    refine wtF hT_2 hOx0 (by decide) (fun hT_4 => ?_)
    refine e_aload_n (pc' := 67) (dAt D26 35 rfl) rfl rfl ?_
    refine e_dup (pc' := 68) (dAt D26 36 rfl) rfl rfl ?_
    refine e_getfield (pc' := 71) (dAt D26 37 rfl) rfl rfl hOx0 (hT_4.int hOx0 8 (by decide)) ?_
    refine e_iconst (pc' := 72) (v := 1) (dAt D26 38 rfl) rfl (by decide) ?_
    refine e_iadd (pc' := 73) (dAt D26 39 rfl) rfl ?_
    replace h := h _ rfl
    refine e_putfield (pc' := 76) (dAt D26 40 rfl) rfl rfl hOx0 rfl rfl (fun e => by cases e) ?_
    refine wtF hT_4 hOx0 (by decide) (fun hT_6 => ?_)
    exact e_return (dAt D26 41 rfl) rfl h
  · replace h := h.2 c
    refine e_aload_n (pc' := 10) (dAt D26 4 rfl) rfl rfl ?_
    refine e_getfield (pc' := 13) (dAt D26 5 rfl) rfl rfl hOx0 (hT.own hOx0 2 rfl) ?_
    refine e_bipush (pc' := 15) (v := 10) (dAt D26 6 rfl) rfl (by decide) ?_
    refine e_aload_n (pc' := 16) (dAt D26 7 rfl) rfl rfl ?_
    refine e_getfield (pc' := 19) (dAt D26 8 rfl) rfl rfl hOx0 (hT.own hOx0 2 rfl) ?_
    refine e_iconst (pc' := 20) (v := 0) (dAt D26 9 rfl) rfl (by decide) ?_
    refine e_bipush (pc' := 22) (v := 90) (dAt D26 10 rfl) rfl (by decide) ?_
    obtain ⟨f1, h⟩ := h
    replace h := h _ rfl
    refine e_copy (pc' := 25) (dAt D26 11 rfl) rfl rfl (hT.arr hOx0 2 rfl (by decide)) (hT.arr hOx0 2 rfl (by decide)) f1 ⟨hd1, Nat.le_of_ble_eq_true rfl⟩ ?_
    refine wtI hT (fun hT_8 => ?_)
    refine e_aload_n (pc' := 26) (dAt D26 12 rfl) rfl rfl ?_
    refine e_dup (pc' := 27) (dAt D26 13 rfl) rfl rfl ?_
    refine e_getfield (pc' := 30) (dAt D26 14 rfl) rfl rfl hOx0 (hT_8.int hOx0 6 (by decide)) ?_
    refine e_iconst (pc' := 31) (v := 1) (dAt D26 15 rfl) rfl (by decide) ?_
    refine e_isub (pc' := 32) (dAt D26 16 rfl) rfl ?_
    replace h := h _ rfl
    refine e_putfield (pc' := 35) (dAt D26 17 rfl) rfl rfl hOx0 rfl rfl (fun e => by cases e) ?_
    refine wtF hT_8 hOx0 (by decide) (fun hT_10 => ?_)
    refine e_aload_n (pc' := 36) (dAt D26 18 rfl) rfl rfl ?_
    refine e_getfield (pc' := 39) (dAt D26 19 rfl) rfl rfl hOx0 (hT_10.own hOx0 0 rfl) ?_
    refine e_iconst (pc' := 40) (v := 0) (dAt D26 20 rfl) rfl (by decide) ?_
    refine e_aload_n (pc' := 41) (dAt D26 21 rfl) rfl rfl ?_
    refine e_getfield (pc' := 44) (dAt D26 22 rfl) rfl rfl hOx0 (hT_10.own hOx0 2 rfl) ?_
    refine e_aload_n (pc' := 45) (dAt D26 23 rfl) rfl rfl ?_
    refine e_getfield (pc' := 48) (dAt D26 24 rfl) rfl rfl hOx0 (hT_10.int hOx0 6 (by decide)) ?_
    refine e_bipush (pc' := 50) (v := 10) (dAt D26 25 rfl) rfl (by decide) ?_
    refine e_imul (pc' := 51) (dAt D26 26 rfl) rfl ?_
    refine e_bipush (pc' := 53) (v := 10) (dAt D26 27 rfl) rfl (by decide) ?_
    obtain ⟨f1, h⟩ := h
    replace h := h _ rfl
    refine e_copy (pc' := 56) (dAt D26 28 rfl) rfl rfl (hT_10.arr hOx0 0 rfl (by decide)) (hT_10.arr hOx0 2 rfl (by decide)) f1 ⟨hd1, Nat.le_of_ble_eq_true rfl⟩ ?_
    refine wtI hT_10 (fun hT_12 => ?_)
    refine e_aload_n (pc' := 57) (dAt D26 29 rfl) rfl rfl ?_
    refine e_dup (pc' := 58) (dAt D26 30 rfl) rfl rfl ?_
    refine e_getfield (pc' := 61) (dAt D26 31 rfl) rfl rfl hOx0 (hT_12.int hOx0 6 (by decide)) ?_
    refine e_iconst (pc' := 62) (v := 1) (dAt D26 32 rfl) rfl (by decide) ?_
    refine e_iadd (pc' := 63) (dAt D26 33 rfl) rfl ?_
    replace h := h _ rfl
    refine e_putfield (pc' := 66) (dAt D26 34 rfl) rfl rfl hOx0 rfl rfl (fun e => by cases e) ?_
    refine wtF hT_12 hOx0 (by decide) (fun hT_14 => ?_)
    refine e_aload_n (pc' := 67) (dAt D26 35 rfl) rfl rfl ?_
    refine e_dup (pc' := 68) (dAt D26 36 rfl) rfl rfl ?_
    refine e_getfield (pc' := 71) (dAt D26 37 rfl) rfl rfl hOx0 (hT_14.int hOx0 8 (by decide)) ?_
    refine e_iconst (pc' := 72) (v := 1) (dAt D26 38 rfl) rfl (by decide) ?_
    refine e_iadd (pc' := 73) (dAt D26 39 rfl) rfl ?_
    replace h := h _ rfl
    refine e_putfield (pc' := 76) (dAt D26 40 rfl) rfl rfl hOx0 rfl rfl (fun e => by cases e) ?_
    refine wtF hT_14 hOx0 (by decide) (fun hT_16 => ?_)
    exact e_return (dAt D26 41 rfl) rfl h
-- PlaceNets.put.(II)I, from 0
set_option maxRecDepth 20000 in
theorem bk30_0 {d b : Nat} {Q : Option Value → mMem → Prop} {m : mMem} {x0 : Nat} {x1 : Int32} {x2 : Int32} {x3 : Option Value} (hT : mWT m) (hOx0 : m.1 x0 = some (.inr 0) ∧ x0 ≠ 0)
    (h : mEv d 31 [.int x2] m (fun r m' => mEs d 30 b g30 (4, [some (.ref x0), some (.int x1), some (.int x2), x3], r.toList ++ [], m') Q)) :
    mEs d 30 b g30 (0, [some (.ref x0), some (.int x1), some (.int x2), x3], [], m) Q := by
  refine e_iload_n (pc' := 1) (dAt D30 0 rfl) rfl rfl ?_
  exact e_call2 h (dAt D30 1 rfl) (hi2 rfl) rfl G31 (by decide) rfl (Nat.le_of_ble_eq_true rfl) rfl rfl rfl
-- PlaceNets.put.(II)I, from 4
set_option maxRecDepth 20000 in
theorem bk30_4 {d b : Nat} {Q : Option Value → mMem → Prop} {m : mMem} {x0 : Nat} {x1 : Int32} {x2 : Int32} {x3 : Option Value} {y0 : Int32} (hT : mWT m) (hOx0 : m.1 x0 = some (.inr 0) ∧ x0 ≠ 0)
    (h : (((¬ y0 = 0) → (∃ (r_1 : Nat), (m.2.1 x0 1 = .ref r_1) ∧ ((m.1 r_1 = some (.inr 2) ∧ r_1 ≠ 0) ∧ (mEv d 19 [.ref r_1, .int x1] m (fun r m' => mEs d 30 b g30 (17, [some (.ref x0), some (.int x1), some (.int x2), x3], r.toList ++ [], m') Q))))) ∧ (¬ (¬ y0 = 0) → (Q (some (.int ((-1)))) m)))) :
    mEs d 30 b g30 (4, [some (.ref x0), some (.int x1), some (.int x2), x3], [.int y0], m) Q := by
  refine e_if_ne (t := 9) (pc' := 7) (dAt D30 2 rfl) ⟨by decide, by decide⟩ rfl (fun c => ?_) (fun c => ?_)
  · replace h := h.1 c
    refine e_aload_n (pc' := 10) (dAt D30 5 rfl) rfl rfl ?_
    obtain ⟨r_1, f1, f_2, h⟩ := h
    refine e_getfield (pc' := 13) (dAt D30 6 rfl) rfl rfl hOx0 f1 ?_
    refine e_iload_n (pc' := 14) (dAt D30 7 rfl) rfl rfl ?_
    exact e_call2 h (dAt D30 8 rfl) (hi0 rfl) rfl G19 (by decide) rfl (Nat.le_of_ble_eq_true rfl) (kV f_2 rfl rfl) rfl rfl
  · replace h := h.2 c
    refine e_iconst (pc' := 8) (v := (-1)) (dAt D30 3 rfl) rfl (by decide) ?_
    exact e_ireturn (dAt D30 4 rfl) rfl ⟨rfl, fun e => by cases e⟩ h
-- PlaceNets.put.(II)I, from 17
set_option maxRecDepth 20000 in
theorem bk30_17 {d b : Nat} {Q : Option Value → mMem → Prop} {m : mMem} {x0 : Nat} {x1 : Int32} {x2 : Int32} {x3 : Option Value} {y0 : Int32} (hT : mWT m) (hOx0 : m.1 x0 = some (.inr 0) ∧ x0 ≠ 0)
    (h : (((¬ y0 = 0) → (mEv d 26 [.ref x0] m (fun r m' => mEs d 30 b g30 (27, [some (.ref x0), some (.int x1), some (.int x2), x3], r.toList ++ [], m') Q))) ∧ (¬ (¬ y0 = 0) → (Q (some (.int ((-2)))) m)))) :
    mEs d 30 b g30 (17, [some (.ref x0), some (.int x1), some (.int x2), x3], [.int y0], m) Q := by
  refine e_if_ne (t := 23) (pc' := 20) (dAt D30 9 rfl) ⟨by decide, by decide⟩ rfl (fun c => ?_) (fun c => ?_)
  · replace h := h.1 c
    refine e_aload_n (pc' := 24) (dAt D30 12 rfl) rfl rfl ?_
    exact e_call2 h (dAt D30 13 rfl) (hi0 rfl) rfl G26 (by decide) rfl (Nat.le_of_ble_eq_true rfl) (kV hOx0 rfl rfl) rfl rfl
  · replace h := h.2 c
    refine e_bipush (pc' := 22) (v := (-2)) (dAt D30 10 rfl) rfl (by decide) ?_
    exact e_ireturn (dAt D30 11 rfl) rfl ⟨rfl, fun e => by cases e⟩ h
-- PlaceNets.put.(II)I, from 27
set_option maxRecDepth 20000 in
theorem bk30_27 {d b : Nat} {Q : Option Value → mMem → Prop} {m : mMem} {x0 : Nat} {x1 : Int32} {x2 : Int32} {x3 : Option Value} (hT : mWT m) (hOx0 : m.1 x0 = some (.inr 0) ∧ x0 ≠ 0)
    (h : (mIn x1 10 = true) ∧ (∀ (v_1 : Int32), v_1 = (m.2.2.1 (64 * x0 + 4) x1.toNatClampNeg) → (mIn x1 10 = true) ∧ (∀ (m_2 : mMem), m_2 = (mSetI m (64 * x0 + 4) (upd (m.2.2.1 (64 * x0 + 4)) x1.toNatClampNeg x2)) → Q (some (.int v_1)) m_2))) :
    mEs d 30 b g30 (27, [some (.ref x0), some (.int x1), some (.int x2), x3], [], m) Q := by
  refine e_aload_n (pc' := 28) (dAt D30 14 rfl) rfl rfl ?_
  refine e_getfield (pc' := 31) (dAt D30 15 rfl) rfl rfl hOx0 (hT.own hOx0 0 rfl) ?_
  refine e_iload_n (pc' := 32) (dAt D30 16 rfl) rfl rfl ?_
  obtain ⟨f1, h⟩ := h
  refine e_iaload (pc' := 33) (dAt D30 17 rfl) rfl (hT.arr hOx0 0 rfl (by decide)).1 (Or.inl (hT.arr hOx0 0 rfl (by decide)).2) f1 rfl ?_
  replace h := h _ rfl
  refine e_istore_n (pc' := 34) (dAt D30 18 rfl) rfl (Nat.le_of_ble_eq_true rfl) rfl ?_
  refine e_aload_n (pc' := 35) (dAt D30 19 rfl) rfl rfl ?_
  refine e_getfield (pc' := 38) (dAt D30 20 rfl) rfl rfl hOx0 (hT.own hOx0 0 rfl) ?_
  refine e_iload_n (pc' := 39) (dAt D30 21 rfl) rfl rfl ?_
  refine e_iload_n (pc' := 40) (dAt D30 22 rfl) rfl rfl ?_
  obtain ⟨f1, h⟩ := h
  replace h := h _ rfl
  refine e_iastore (pc' := 41) (dAt D30 23 rfl) rfl (hT.arr hOx0 0 rfl (by decide)).1 (hT.arr hOx0 0 rfl (by decide)).2 f1 (nar_i _) ?_
  refine wtI hT (fun hT_3 => ?_)
  refine e_iload_n (pc' := 42) (dAt D30 24 rfl) rfl rfl ?_
  exact e_ireturn (dAt D30 25 rfl) rfl ⟨rfl, fun e => by cases e⟩ h
-- PlaceNets.isTokenNumber.(I)Z, from 0
set_option maxRecDepth 20000 in
theorem bk31_0 {d b : Nat} {Q : Option Value → mMem → Prop} {m : mMem} {x0 : Int32} (hT : mWT m)
    (h : (((x0 < 0) → (Q (some (.int 0)) m)) ∧ (¬ (x0 < 0) → (((99 < x0) → (Q (some (.int 0)) m)) ∧ (¬ (99 < x0) → (Q (some (.int 1)) m)))))) :
    mEs d 31 b g31 (0, [some (.int x0)], [], m) Q := by
  refine e_iload_n (pc' := 1) (dAt D31 0 rfl) rfl rfl ?_
  refine e_if_lt (t := 14) (pc' := 4) (dAt D31 1 rfl) ⟨by decide, by decide⟩ rfl (fun c => ?_) (fun c => ?_)
  · replace h := h.1 c
    refine e_iconst (pc' := 15) (v := 0) (dAt D31 7 rfl) rfl (by decide) ?_
    exact e_ireturn (dAt D31 8 rfl) rfl ⟨rfl, fun e => by cases e⟩ h
  · replace h := h.2 c
    refine e_iload_n (pc' := 5) (dAt D31 2 rfl) rfl rfl ?_
    refine e_bipush (pc' := 7) (v := 99) (dAt D31 3 rfl) rfl (by decide) ?_
    refine e_icmp_gt (t := 14) (pc' := 10) (dAt D31 4 rfl) ⟨by decide, by decide⟩ rfl (fun c => ?_) (fun c => ?_)
    · replace h := h.1 c
      refine e_iconst (pc' := 15) (v := 0) (dAt D31 7 rfl) rfl (by decide) ?_
      exact e_ireturn (dAt D31 8 rfl) rfl ⟨rfl, fun e => by cases e⟩ h
    · replace h := h.2 c
      refine e_iconst (pc' := 11) (v := 1) (dAt D31 5 rfl) rfl (by decide) ?_
      refine e_goto (t := 15) (dAt D31 6 rfl) ⟨by decide, by decide⟩ ?_
      exact e_ireturn (dAt D31 8 rfl) rfl ⟨rfl, fun e => by cases e⟩ h
-- PlaceNets.run.(II)I, from 0
set_option maxRecDepth 20000 in
theorem bk32_0 {d b : Nat} {Q : Option Value → mMem → Prop} {m : mMem} {x0 : Nat} {x1 : Int32} {x2 : Int32} {x3 : Option Value} {x4 : Option Value} {x5 : Option Value} {x6 : Option Value} (hT : mWT m) (hOx0 : m.1 x0 = some (.inr 0) ∧ x0 ≠ 0)
    (h : (((x1 < 0) → (Q (some (.int ((-1)))) m)) ∧ (¬ (x1 < 0) → (((1000000 ≤ x1) → (Q (some (.int ((-1)))) m)) ∧ (¬ (1000000 ≤ x1) → (((x2 < 1) → (Q (some (.int ((-1)))) m)) ∧ (¬ (x2 < 1) → (((x2 ≤ 200) → (mEv d 21 [.ref x0] m (fun r m' => mEs d 32 b g32 (28, [some (.ref x0), some (.int x1), some (.int x2), x3, x4, x5, x6], r.toList ++ [], m') Q))) ∧ (¬ (x2 ≤ 200) → (Q (some (.int ((-1)))) m)))))))))) :
    mEs d 32 b g32 (0, [some (.ref x0), some (.int x1), some (.int x2), x3, x4, x5, x6], [], m) Q := by
  refine e_iload_n (pc' := 1) (dAt D32 0 rfl) rfl rfl ?_
  refine e_if_lt (t := 22) (pc' := 4) (dAt D32 1 rfl) ⟨by decide, by decide⟩ rfl (fun c => ?_) (fun c => ?_)
  · replace h := h.1 c
    refine e_iconst (pc' := 23) (v := (-1)) (dAt D32 11 rfl) rfl (by decide) ?_
    exact e_ireturn (dAt D32 12 rfl) rfl ⟨rfl, fun e => by cases e⟩ h
  · replace h := h.2 c
    refine e_iload_n (pc' := 5) (dAt D32 2 rfl) rfl rfl ?_
    refine e_ldc (pc' := 7) (dAt D32 3 rfl) rfl rfl ?_
    refine e_icmp_ge (t := 22) (pc' := 10) (dAt D32 4 rfl) ⟨by decide, by decide⟩ rfl (fun c => ?_) (fun c => ?_)
    · replace h := h.1 c
      refine e_iconst (pc' := 23) (v := (-1)) (dAt D32 11 rfl) rfl (by decide) ?_
      exact e_ireturn (dAt D32 12 rfl) rfl ⟨rfl, fun e => by cases e⟩ h
    · replace h := h.2 c
      refine e_iload_n (pc' := 11) (dAt D32 5 rfl) rfl rfl ?_
      refine e_iconst (pc' := 12) (v := 1) (dAt D32 6 rfl) rfl (by decide) ?_
      refine e_icmp_lt (t := 22) (pc' := 15) (dAt D32 7 rfl) ⟨by decide, by decide⟩ rfl (fun c => ?_) (fun c => ?_)
      · replace h := h.1 c
        refine e_iconst (pc' := 23) (v := (-1)) (dAt D32 11 rfl) rfl (by decide) ?_
        exact e_ireturn (dAt D32 12 rfl) rfl ⟨rfl, fun e => by cases e⟩ h
      · replace h := h.2 c
        refine e_iload_n (pc' := 16) (dAt D32 8 rfl) rfl rfl ?_
        refine e_sipush (pc' := 19) (v := 200) (dAt D32 9 rfl) rfl (by decide) ?_
        refine e_icmp_le (t := 24) (pc' := 22) (dAt D32 10 rfl) ⟨by decide, by decide⟩ rfl (fun c => ?_) (fun c => ?_)
        · replace h := h.1 c
          refine e_aload_n (pc' := 25) (dAt D32 13 rfl) rfl rfl ?_
          exact e_call2 h (dAt D32 14 rfl) (hi0 rfl) rfl G21 (by decide) rfl (Nat.le_of_ble_eq_true rfl) (kV hOx0 rfl rfl) rfl rfl
        · replace h := h.2 c
          refine e_iconst (pc' := 23) (v := (-1)) (dAt D32 11 rfl) rfl (by decide) ?_
          exact e_ireturn (dAt D32 12 rfl) rfl ⟨rfl, fun e => by cases e⟩ h
-- PlaceNets.run.(II)I, from 28
set_option maxRecDepth 20000 in
theorem bk32_28 {d b : Nat} {Q : Option Value → mMem → Prop} {m : mMem} {x0 : Nat} {x1 : Int32} {x2 : Int32} {x3 : Option Value} {x4 : Option Value} {x5 : Option Value} {x6 : Option Value} {y0 : Int32} (hT : mWT m) (hOx0 : m.1 x0 = some (.inr 0) ∧ x0 ≠ 0)
    (h : (((¬ y0 = 0) → (mEv d 26 [.ref x0] m (fun r m' => mEs d 32 b g32 (38, [some (.ref x0), some (.int x1), some (.int x2), x3, x4, x5, x6], r.toList ++ [], m') Q))) ∧ (¬ (¬ y0 = 0) → (Q (some (.int ((-2)))) m)))) :
    mEs d 32 b g32 (28, [some (.ref x0), some (.int x1), some (.int x2), x3, x4, x5, x6], [.int y0], m) Q := by
  refine e_if_ne (t := 34) (pc' := 31) (dAt D32 15 rfl) ⟨by decide, by decide⟩ rfl (fun c => ?_) (fun c => ?_)
  · replace h := h.1 c
    refine e_aload_n (pc' := 35) (dAt D32 18 rfl) rfl rfl ?_
    exact e_call2 h (dAt D32 19 rfl) (hi0 rfl) rfl G26 (by decide) rfl (Nat.le_of_ble_eq_true rfl) (kV hOx0 rfl rfl) rfl rfl
  · replace h := h.2 c
    refine e_bipush (pc' := 33) (v := (-2)) (dAt D32 16 rfl) rfl (by decide) ?_
    exact e_ireturn (dAt D32 17 rfl) rfl ⟨rfl, fun e => by cases e⟩ h
-- PlaceNets.run.(II)I, from 38
set_option maxRecDepth 20000 in
theorem bk32_38 {d b : Nat} {Q : Option Value → mMem → Prop} {m : mMem} {x0 : Nat} {x1 : Int32} {x2 : Int32} {x3 : Option Value} {x4 : Option Value} {x5 : Option Value} {x6 : Option Value} (hT : mWT m) (hOx0 : m.1 x0 = some (.inr 0) ∧ x0 ≠ 0)
    (h : mEs d 32 b g32 (43, [some (.ref x0), some (.int x1), some (.int x2), some (.int x1), some (.int 0), x5, x6], [], m) Q) :
    mEs d 32 b g32 (38, [some (.ref x0), some (.int x1), some (.int x2), x3, x4, x5, x6], [], m) Q := by
  refine e_iload_n (pc' := 39) (dAt D32 20 rfl) rfl rfl ?_
  refine e_istore_n (pc' := 40) (dAt D32 21 rfl) rfl (Nat.le_of_ble_eq_true rfl) rfl ?_
  refine e_iconst (pc' := 41) (v := 0) (dAt D32 22 rfl) rfl (by decide) ?_
  refine e_istore (pc' := 43) (dAt D32 23 rfl) rfl (Nat.le_of_ble_eq_true rfl) rfl ?_
  exact h
-- PlaceNets.run.(II)I, from 43
set_option maxRecDepth 20000 in
theorem bk32_43 {d b : Nat} {Q : Option Value → mMem → Prop} {m : mMem} {x0 : Nat} {x1 : Int32} {x2 : Int32} {x3 : Int32} {x4 : Int32} {x5 : Option Value} {x6 : Option Value} (hT : mWT m) (hOx0 : m.1 x0 = some (.inr 0) ∧ x0 ≠ 0)
    (h : (((x2 ≤ x4) → (Q (some (.int x2)) m)) ∧ (¬ (x2 ≤ x4) → (∃ (r_1 : Nat), (m.2.1 x0 1 = .ref r_1) ∧ ((m.1 r_1 = some (.inr 2) ∧ r_1 ≠ 0) ∧ (mEv d 22 [.ref r_1, .ref (64 * x0 + 4)] m (fun r m' => mEs d 32 b g32 (60, [some (.ref x0), some (.int x1), some (.int x2), some (.int x3), some (.int x4), x5, x6], r.toList ++ [], m') Q))))))) :
    mEs d 32 b g32 (43, [some (.ref x0), some (.int x1), some (.int x2), some (.int x3), some (.int x4), x5, x6], [], m) Q := by
  refine e_iload (pc' := 45) (dAt D32 24 rfl) rfl rfl ?_
  refine e_iload_n (pc' := 46) (dAt D32 25 rfl) rfl rfl ?_
  refine e_icmp_ge (t := 116) (pc' := 49) (dAt D32 26 rfl) ⟨by decide, by decide⟩ rfl (fun c => ?_) (fun c => ?_)
  · replace h := h.1 c
    refine e_iload_n (pc' := 117) (dAt D32 60 rfl) rfl rfl ?_
    exact e_ireturn (dAt D32 61 rfl) rfl ⟨rfl, fun e => by cases e⟩ h
  · replace h := h.2 c
    refine e_aload_n (pc' := 50) (dAt D32 27 rfl) rfl rfl ?_
    obtain ⟨r_1, f1, f_2, h⟩ := h
    refine e_getfield (pc' := 53) (dAt D32 28 rfl) rfl rfl hOx0 f1 ?_
    refine e_aload_n (pc' := 54) (dAt D32 29 rfl) rfl rfl ?_
    refine e_getfield (pc' := 57) (dAt D32 30 rfl) rfl rfl hOx0 (hT.own hOx0 0 rfl) ?_
    exact e_call2 h (dAt D32 31 rfl) (hi0 rfl) rfl G22 (by decide) rfl (Nat.le_of_ble_eq_true rfl) (kV f_2 rfl rfl) rfl rfl
-- PlaceNets.run.(II)I, from 60
set_option maxRecDepth 20000 in
theorem bk32_60 {d b : Nat} {Q : Option Value → mMem → Prop} {m : mMem} {x0 : Nat} {x1 : Int32} {x2 : Int32} {x3 : Int32} {x4 : Int32} {x5 : Option Value} {x6 : Option Value} {y0 : Int32} (hT : mWT m) (hOx0 : m.1 x0 = some (.inr 0) ∧ x0 ≠ 0)
    (h : mEv d 29 [.int y0] m (fun r m' => mEs d 32 b g32 (67, [some (.ref x0), some (.int x1), some (.int x2), some (.int x3), some (.int x4), some (.int y0), x6], r.toList ++ [], m') Q)) :
    mEs d 32 b g32 (60, [some (.ref x0), some (.int x1), some (.int x2), some (.int x3), some (.int x4), x5, x6], [.int y0], m) Q := by
  refine e_istore (pc' := 62) (dAt D32 32 rfl) rfl (Nat.le_of_ble_eq_true rfl) rfl ?_
  refine e_iload (pc' := 64) (dAt D32 33 rfl) rfl rfl ?_
  exact e_call2 h (dAt D32 34 rfl) (hi2 rfl) rfl G29 (by decide) rfl (Nat.le_of_ble_eq_true rfl) rfl rfl rfl
-- PlaceNets.run.(II)I, from 67
set_option maxRecDepth 20000 in
theorem bk32_67 {d b : Nat} {Q : Option Value → mMem → Prop} {m : mMem} {x0 : Nat} {x1 : Int32} {x2 : Int32} {x3 : Int32} {x4 : Int32} {x5 : Int32} {x6 : Option Value} {y0 : Int32} (hT : mWT m) (hOx0 : m.1 x0 = some (.inr 0) ∧ x0 ≠ 0)
    (h : (((¬ y0 = 0) → (∀ (v_1 : Int32), v_1 = (((1103 * x3) + 12345) - ((1103 * x3) + 12345) / 1000003 * 1000003) → ∃ (r_2 : Nat), (m.2.1 x0 1 = .ref r_2) ∧ ((m.1 r_2 = some (.inr 2) ∧ r_2 ≠ 0) ∧ ((y0 ≠ 0) ∧ (mEv d 33 [.int x5, .int (v_1 - v_1 / y0 * y0)] m (fun r m' => mEs d 32 b g32 (107, [some (.ref x0), some (.int x1), some (.int x2), some (.int v_1), some (.int x4), some (.int x5), some (.int y0)], r.toList ++ [.ref (64 * x0 + 4), .ref r_2], m') Q)))))) ∧ (¬ (¬ y0 = 0) → (Q (some (.int x4)) m)))) :
    mEs d 32 b g32 (67, [some (.ref x0), some (.int x1), some (.int x2), some (.int x3), some (.int x4), some (.int x5), x6], [.int y0], m) Q := by
  refine e_istore (pc' := 69) (dAt D32 35 rfl) rfl (Nat.le_of_ble_eq_true rfl) rfl ?_
  refine e_iload (pc' := 71) (dAt D32 36 rfl) rfl rfl ?_
  refine e_if_ne (t := 77) (pc' := 74) (dAt D32 37 rfl) ⟨by decide, by decide⟩ rfl (fun c => ?_) (fun c => ?_)
  · replace h := h.1 c
    refine e_sipush (pc' := 80) (v := 1103) (dAt D32 40 rfl) rfl (by decide) ?_
    refine e_iload_n (pc' := 81) (dAt D32 41 rfl) rfl rfl ?_
    refine e_imul (pc' := 82) (dAt D32 42 rfl) rfl ?_
    refine e_sipush (pc' := 85) (v := 12345) (dAt D32 43 rfl) rfl (by decide) ?_
    refine e_iadd (pc' := 86) (dAt D32 44 rfl) rfl ?_
    refine e_ldc (pc' := 88) (dAt D32 45 rfl) rfl rfl ?_
    refine e_irem (pc' := 89) (dAt D32 46 rfl) rfl (by decide) ?_
    replace h := h _ rfl
    refine e_istore_n (pc' := 90) (dAt D32 47 rfl) rfl (Nat.le_of_ble_eq_true rfl) rfl ?_
    refine e_aload_n (pc' := 91) (dAt D32 48 rfl) rfl rfl ?_
    obtain ⟨r_2, f1, f_3, h⟩ := h
    refine e_getfield (pc' := 94) (dAt D32 49 rfl) rfl rfl hOx0 f1 ?_
    refine e_aload_n (pc' := 95) (dAt D32 50 rfl) rfl rfl ?_
    refine e_getfield (pc' := 98) (dAt D32 51 rfl) rfl rfl hOx0 (hT.own hOx0 0 rfl) ?_
    refine e_iload (pc' := 100) (dAt D32 52 rfl) rfl rfl ?_
    refine e_iload_n (pc' := 101) (dAt D32 53 rfl) rfl rfl ?_
    refine e_iload (pc' := 103) (dAt D32 54 rfl) rfl rfl ?_
    obtain ⟨f1, h⟩ := h
    refine e_irem (pc' := 104) (dAt D32 55 rfl) rfl f1 ?_
    exact e_call2 h (dAt D32 56 rfl) (hi2 rfl) rfl G33 (by decide) rfl (Nat.le_of_ble_eq_true rfl) rfl rfl rfl
  · replace h := h.2 c
    refine e_iload (pc' := 76) (dAt D32 38 rfl) rfl rfl ?_
    exact e_ireturn (dAt D32 39 rfl) rfl ⟨rfl, fun e => by cases e⟩ h
-- PlaceNets.run.(II)I, from 107
set_option maxRecDepth 20000 in
theorem bk32_107 {d b : Nat} {Q : Option Value → mMem → Prop} {m : mMem} {x0 : Nat} {x1 : Int32} {x2 : Int32} {x3 : Int32} {x4 : Int32} {x5 : Int32} {x6 : Int32} {y0 : Nat} {y1 : Nat} {ly1 : Nat} {y2 : Int32} (hT : mWT m) (hOx0 : m.1 x0 = some (.inr 0) ∧ x0 ≠ 0) (hOy0 : m.1 y0 = some (.inr 2) ∧ y0 ≠ 0) (hAy1 : m.1 y1 = some (.inl (.int, ly1)) ∧ y1 ≠ 0)
    (h : mEv d 27 [.ref y0, .ref y1, .int y2] m (fun r m' => mEs d 32 b g32 (110, [some (.ref x0), some (.int x1), some (.int x2), some (.int x3), some (.int x4), some (.int x5), some (.int x6)], r.toList ++ [], m') Q)) :
    mEs d 32 b g32 (107, [some (.ref x0), some (.int x1), some (.int x2), some (.int x3), some (.int x4), some (.int x5), some (.int x6)], [.int y2, .ref y1, .ref y0], m) Q := by
  exact e_call2 h (dAt D32 57 rfl) (hi0 rfl) rfl G27 (by decide) rfl (Nat.le_of_ble_eq_true rfl) (kV hOy0 rfl rfl) rfl rfl
-- PlaceNets.run.(II)I, from 110
set_option maxRecDepth 20000 in
theorem bk32_110 {d b : Nat} {Q : Option Value → mMem → Prop} {m : mMem} {x0 : Nat} {x1 : Int32} {x2 : Int32} {x3 : Int32} {x4 : Int32} {x5 : Int32} {x6 : Int32} (hT : mWT m) (hOx0 : m.1 x0 = some (.inr 0) ∧ x0 ≠ 0)
    (h : ∀ (v_1 : Int32), v_1 = (x4 + 1) → mEs d 32 b g32 (43, [some (.ref x0), some (.int x1), some (.int x2), some (.int x3), some (.int v_1), some (.int x5), some (.int x6)], [], m) Q) :
    mEs d 32 b g32 (110, [some (.ref x0), some (.int x1), some (.int x2), some (.int x3), some (.int x4), some (.int x5), some (.int x6)], [], m) Q := by
  replace h := h _ rfl
  refine e_iinc (pc' := 113) (dAt D32 58 rfl) rfl rfl (Nat.le_of_ble_eq_true rfl) (congrArg (_ + ·) (show Int32.ofInt (1) = (1 : Int32) by decide)) rfl ?_
  refine e_goto (t := 43) (dAt D32 59 rfl) ⟨by decide, by decide⟩ ?_
  exact h
-- PlaceNets.bitAt.(II)I, from 0
set_option maxRecDepth 20000 in
theorem bk33_0 {d b : Nat} {Q : Option Value → mMem → Prop} {m : mMem} {x0 : Int32} {x1 : Int32} {x2 : Option Value} {x3 : Option Value} (hT : mWT m)
    (h : mEs d 33 b g33 (4, [some (.int x0), some (.int x1), some (.int 0), some (.int 0)], [], m) Q) :
    mEs d 33 b g33 (0, [some (.int x0), some (.int x1), x2, x3], [], m) Q := by
  refine e_iconst (pc' := 1) (v := 0) (dAt D33 0 rfl) rfl (by decide) ?_
  refine e_istore_n (pc' := 2) (dAt D33 1 rfl) rfl (Nat.le_of_ble_eq_true rfl) rfl ?_
  refine e_iconst (pc' := 3) (v := 0) (dAt D33 2 rfl) rfl (by decide) ?_
  refine e_istore_n (pc' := 4) (dAt D33 3 rfl) rfl (Nat.le_of_ble_eq_true rfl) rfl ?_
  exact h
-- PlaceNets.bitAt.(II)I, from 4
set_option maxRecDepth 20000 in
theorem bk33_4 {d b : Nat} {Q : Option Value → mMem → Prop} {m : mMem} {x0 : Int32} {x1 : Int32} {x2 : Int32} {x3 : Int32} (hT : mWT m)
    (h : (((10 ≤ x3) → (Q (some (.int ((-1)))) m)) ∧ (¬ (10 ≤ x3) → (((¬ ((x0 >>> (x3 &&& 31)) &&& 1) = 1) → (∀ (v_1 : Int32), v_1 = (x3 + 1) → mEs d 33 b g33 (4, [some (.int x0), some (.int x1), some (.int x2), some (.int v_1)], [], m) Q)) ∧ (¬ (¬ ((x0 >>> (x3 &&& 31)) &&& 1) = 1) → (((¬ x2 = x1) → (∀ (v_2 : Int32), v_2 = (x2 + 1) → ∀ (v_3 : Int32), v_3 = (x3 + 1) → mEs d 33 b g33 (4, [some (.int x0), some (.int x1), some (.int v_2), some (.int v_3)], [], m) Q)) ∧ (¬ (¬ x2 = x1) → (Q (some (.int x3)) m)))))))) :
    mEs d 33 b g33 (4, [some (.int x0), some (.int x1), some (.int x2), some (.int x3)], [], m) Q := by
  refine e_iload_n (pc' := 5) (dAt D33 4 rfl) rfl rfl ?_
  refine e_bipush (pc' := 7) (v := 10) (dAt D33 5 rfl) rfl (by decide) ?_
  refine e_icmp_ge (t := 35) (pc' := 10) (dAt D33 6 rfl) ⟨by decide, by decide⟩ rfl (fun c => ?_) (fun c => ?_)
  · replace h := h.1 c
    refine e_iconst (pc' := 36) (v := (-1)) (dAt D33 22 rfl) rfl (by decide) ?_
    exact e_ireturn (dAt D33 23 rfl) rfl ⟨rfl, fun e => by cases e⟩ h
  · replace h := h.2 c
    refine e_iload_n (pc' := 11) (dAt D33 7 rfl) rfl rfl ?_
    refine e_iload_n (pc' := 12) (dAt D33 8 rfl) rfl rfl ?_
    refine e_ishr (pc' := 13) (dAt D33 9 rfl) rfl ?_
    refine e_iconst (pc' := 14) (v := 1) (dAt D33 10 rfl) rfl (by decide) ?_
    refine e_iand (pc' := 15) (dAt D33 11 rfl) rfl ?_
    refine e_iconst (pc' := 16) (v := 1) (dAt D33 12 rfl) rfl (by decide) ?_
    refine e_icmp_ne (t := 29) (pc' := 19) (dAt D33 13 rfl) ⟨by decide, by decide⟩ rfl (fun c => ?_) (fun c => ?_)
    · replace h := h.1 c
      replace h := h _ rfl
      refine e_iinc (pc' := 32) (dAt D33 20 rfl) rfl rfl (Nat.le_of_ble_eq_true rfl) (congrArg (_ + ·) (show Int32.ofInt (1) = (1 : Int32) by decide)) rfl ?_
      refine e_goto (t := 4) (dAt D33 21 rfl) ⟨by decide, by decide⟩ ?_
      exact h
    · replace h := h.2 c
      refine e_iload_n (pc' := 20) (dAt D33 14 rfl) rfl rfl ?_
      refine e_iload_n (pc' := 21) (dAt D33 15 rfl) rfl rfl ?_
      refine e_icmp_ne (t := 26) (pc' := 24) (dAt D33 16 rfl) ⟨by decide, by decide⟩ rfl (fun c => ?_) (fun c => ?_)
      · replace h := h.1 c
        replace h := h _ rfl
        refine e_iinc (pc' := 29) (dAt D33 19 rfl) rfl rfl (Nat.le_of_ble_eq_true rfl) (congrArg (_ + ·) (show Int32.ofInt (1) = (1 : Int32) by decide)) rfl ?_
        replace h := h _ rfl
        refine e_iinc (pc' := 32) (dAt D33 20 rfl) rfl rfl (Nat.le_of_ble_eq_true rfl) (congrArg (_ + ·) (show Int32.ofInt (1) = (1 : Int32) by decide)) rfl ?_
        refine e_goto (t := 4) (dAt D33 21 rfl) ⟨by decide, by decide⟩ ?_
        exact h
      · replace h := h.2 c
        refine e_iload_n (pc' := 25) (dAt D33 17 rfl) rfl rfl ?_
        exact e_ireturn (dAt D33 18 rfl) rfl ⟨rfl, fun e => by cases e⟩ h
-- PlaceNets.home.()I, from 0
set_option maxRecDepth 20000 in
theorem bk34_0 {d b : Nat} {Q : Option Value → mMem → Prop} {m : mMem} {x0 : Nat} (hT : mWT m) (hOx0 : m.1 x0 = some (.inr 0) ∧ x0 ≠ 0)
    (h : mEv d 21 [.ref x0] m (fun r m' => mEs d 34 b g34 (4, [some (.ref x0)], r.toList ++ [], m') Q)) :
    mEs d 34 b g34 (0, [some (.ref x0)], [], m) Q := by
  refine e_aload_n (pc' := 1) (dAt D34 0 rfl) rfl rfl ?_
  exact e_call2 h (dAt D34 1 rfl) (hi0 rfl) rfl G21 (by decide) rfl (Nat.le_of_ble_eq_true rfl) (kV hOx0 rfl rfl) rfl rfl
-- PlaceNets.home.()I, from 4
set_option maxRecDepth 20000 in
theorem bk34_4 {d b : Nat} {Q : Option Value → mMem → Prop} {m : mMem} {x0 : Nat} {y0 : Int32} (hT : mWT m) (hOx0 : m.1 x0 = some (.inr 0) ∧ x0 ≠ 0)
    (h : (((¬ y0 = 0) → (mEv d 26 [.ref x0] m (fun r m' => mEs d 34 b g34 (14, [some (.ref x0)], r.toList ++ [], m') Q))) ∧ (¬ (¬ y0 = 0) → (Q (some (.int ((-2)))) m)))) :
    mEs d 34 b g34 (4, [some (.ref x0)], [.int y0], m) Q := by
  refine e_if_ne (t := 10) (pc' := 7) (dAt D34 2 rfl) ⟨by decide, by decide⟩ rfl (fun c => ?_) (fun c => ?_)
  · replace h := h.1 c
    refine e_aload_n (pc' := 11) (dAt D34 5 rfl) rfl rfl ?_
    exact e_call2 h (dAt D34 6 rfl) (hi0 rfl) rfl G26 (by decide) rfl (Nat.le_of_ble_eq_true rfl) (kV hOx0 rfl rfl) rfl rfl
  · replace h := h.2 c
    refine e_bipush (pc' := 9) (v := (-2)) (dAt D34 3 rfl) rfl (by decide) ?_
    exact e_ireturn (dAt D34 4 rfl) rfl ⟨rfl, fun e => by cases e⟩ h
-- PlaceNets.home.()I, from 14
set_option maxRecDepth 20000 in
theorem bk34_14 {d b : Nat} {Q : Option Value → mMem → Prop} {m : mMem} {x0 : Nat} (hT : mWT m) (hOx0 : m.1 x0 = some (.inr 0) ∧ x0 ≠ 0) (hd1 : 1 ≤ d)
    (h : ∃ (r_1 : Nat), (m.2.1 x0 1 = .ref r_1) ∧ ((m.1 r_1 = some (.inr 2) ∧ r_1 ≠ 0) ∧ ((¬ (0 : Int32) < 0 ∧ ¬ (0 : Int32) < 0 ∧ ¬ (10 : Int32) < 0 ∧ (0 : Int32).toNatClampNeg + (10 : Int32).toNatClampNeg ≤ 10 ∧ (0 : Int32).toNatClampNeg + (10 : Int32).toNatClampNeg ≤ 10) ∧ (∀ (m_3 : mMem), m_3 = (mSetI m (64 * x0 + 4) (va_cpy (m.2.2.1 (64 * r_1 + 1)) (m.2.2.1 (64 * x0 + 4)) (0 : Int32).toNatClampNeg (0 : Int32).toNatClampNeg (10 : Int32).toNatClampNeg)) → mEv d 35 [.ref x0] m_3 (fun r m' => mEs d 34 b g34 (36, [some (.ref x0)], r.toList ++ [], m') Q))))) :
    mEs d 34 b g34 (14, [some (.ref x0)], [], m) Q := by
  refine e_aload_n (pc' := 15) (dAt D34 7 rfl) rfl rfl ?_
  obtain ⟨r_1, f1, f_2, h⟩ := h
  refine e_getfield (pc' := 18) (dAt D34 8 rfl) rfl rfl hOx0 f1 ?_
  refine e_getfield (pc' := 21) (dAt D34 9 rfl) rfl rfl f_2 (hT.own f_2 0 rfl) ?_
  refine e_iconst (pc' := 22) (v := 0) (dAt D34 10 rfl) rfl (by decide) ?_
  refine e_aload_n (pc' := 23) (dAt D34 11 rfl) rfl rfl ?_
  refine e_getfield (pc' := 26) (dAt D34 12 rfl) rfl rfl hOx0 (hT.own hOx0 0 rfl) ?_
  refine e_iconst (pc' := 27) (v := 0) (dAt D34 13 rfl) rfl (by decide) ?_
  refine e_bipush (pc' := 29) (v := 10) (dAt D34 14 rfl) rfl (by decide) ?_
  obtain ⟨f1, h⟩ := h
  replace h := h _ rfl
  refine e_copy (pc' := 32) (dAt D34 15 rfl) rfl rfl (hT.arr f_2 0 rfl (by decide)) (hT.arr hOx0 0 rfl (by decide)) f1 ⟨hd1, Nat.le_of_ble_eq_true rfl⟩ ?_
  refine wtI hT (fun hT_4 => ?_)
  refine e_aload_n (pc' := 33) (dAt D34 16 rfl) rfl rfl ?_
  exact e_call2 h (dAt D34 17 rfl) (hi0 rfl) rfl G35 (by decide) rfl (Nat.le_of_ble_eq_true rfl) (kV hOx0 rfl rfl) rfl rfl
-- PlaceNets.home.()I, from 36
set_option maxRecDepth 20000 in
theorem bk34_36 {d b : Nat} {Q : Option Value → mMem → Prop} {m : mMem} {x0 : Nat} {y0 : Int32} (hT : mWT m) (hOx0 : m.1 x0 = some (.inr 0) ∧ x0 ≠ 0)
    (h : Q (some (.int y0)) m) :
    mEs d 34 b g34 (36, [some (.ref x0)], [.int y0], m) Q := by
  exact e_ireturn (dAt D34 18 rfl) rfl ⟨rfl, fun e => by cases e⟩ h
-- PlaceNets.tokensInAll.()I, from 0
set_option maxRecDepth 20000 in
theorem bk35_0 {d b : Nat} {Q : Option Value → mMem → Prop} {m : mMem} {x0 : Nat} {x1 : Option Value} {x2 : Option Value} (hT : mWT m) (hOx0 : m.1 x0 = some (.inr 0) ∧ x0 ≠ 0)
    (h : mEs d 35 b g35 (4, [some (.ref x0), some (.int 0), some (.int 0)], [], m) Q) :
    mEs d 35 b g35 (0, [some (.ref x0), x1, x2], [], m) Q := by
  refine e_iconst (pc' := 1) (v := 0) (dAt D35 0 rfl) rfl (by decide) ?_
  refine e_istore_n (pc' := 2) (dAt D35 1 rfl) rfl (Nat.le_of_ble_eq_true rfl) rfl ?_
  refine e_iconst (pc' := 3) (v := 0) (dAt D35 2 rfl) rfl (by decide) ?_
  refine e_istore_n (pc' := 4) (dAt D35 3 rfl) rfl (Nat.le_of_ble_eq_true rfl) rfl ?_
  exact h
-- PlaceNets.tokensInAll.()I, from 4
set_option maxRecDepth 20000 in
theorem bk35_4 {d b : Nat} {Q : Option Value → mMem → Prop} {m : mMem} {x0 : Nat} {x1 : Int32} {x2 : Int32} (hT : mWT m) (hOx0 : m.1 x0 = some (.inr 0) ∧ x0 ≠ 0)
    (h : ∃ (r_1 : Nat), (m.2.1 x0 1 = .ref r_1) ∧ ((m.1 r_1 = some (.inr 2) ∧ r_1 ≠ 0) ∧ ((((iF m r_1 0) ≤ x2) → (Q (some (.int x1)) m)) ∧ (¬ ((iF m r_1 0) ≤ x2) → ((mIn x2 10 = true) ∧ (∀ (v_3 : Int32), v_3 = (x1 + (m.2.2.1 (64 * x0 + 4) x2.toNatClampNeg)) → ∀ (v_4 : Int32), v_4 = (x2 + 1) → mEs d 35 b g35 (4, [some (.ref x0), some (.int v_3), some (.int v_4)], [], m) Q)))))) :
    mEs d 35 b g35 (4, [some (.ref x0), some (.int x1), some (.int x2)], [], m) Q := by
  refine e_iload_n (pc' := 5) (dAt D35 4 rfl) rfl rfl ?_
  refine e_aload_n (pc' := 6) (dAt D35 5 rfl) rfl rfl ?_
  obtain ⟨r_1, f1, f_2, h⟩ := h
  refine e_getfield (pc' := 9) (dAt D35 6 rfl) rfl rfl hOx0 f1 ?_
  refine e_getfield (pc' := 12) (dAt D35 7 rfl) rfl rfl f_2 (hT.int f_2 0 (by decide)) ?_
  refine e_icmp_ge (t := 30) (pc' := 15) (dAt D35 8 rfl) ⟨by decide, by decide⟩ rfl (fun c => ?_) (fun c => ?_)
  · replace h := h.1 c
    refine e_iload_n (pc' := 31) (dAt D35 18 rfl) rfl rfl ?_
    exact e_ireturn (dAt D35 19 rfl) rfl ⟨rfl, fun e => by cases e⟩ h
  · replace h := h.2 c
    refine e_iload_n (pc' := 16) (dAt D35 9 rfl) rfl rfl ?_
    refine e_aload_n (pc' := 17) (dAt D35 10 rfl) rfl rfl ?_
    refine e_getfield (pc' := 20) (dAt D35 11 rfl) rfl rfl hOx0 (hT.own hOx0 0 rfl) ?_
    refine e_iload_n (pc' := 21) (dAt D35 12 rfl) rfl rfl ?_
    obtain ⟨f1, h⟩ := h
    refine e_iaload (pc' := 22) (dAt D35 13 rfl) rfl (hT.arr hOx0 0 rfl (by decide)).1 (Or.inl (hT.arr hOx0 0 rfl (by decide)).2) f1 rfl ?_
    refine e_iadd (pc' := 23) (dAt D35 14 rfl) rfl ?_
    replace h := h _ rfl
    refine e_istore_n (pc' := 24) (dAt D35 15 rfl) rfl (Nat.le_of_ble_eq_true rfl) rfl ?_
    replace h := h _ rfl
    refine e_iinc (pc' := 27) (dAt D35 16 rfl) rfl rfl (Nat.le_of_ble_eq_true rfl) (congrArg (_ + ·) (show Int32.ofInt (1) = (1 : Int32) by decide)) rfl ?_
    refine e_goto (t := 4) (dAt D35 17 rfl) ⟨by decide, by decide⟩ ?_
    exact h
-- PlaceNets.undo.()I, from 0
set_option maxRecDepth 20000 in
theorem bk36_0 {d b : Nat} {Q : Option Value → mMem → Prop} {m : mMem} {x0 : Nat} (hT : mWT m) (hOx0 : m.1 x0 = some (.inr 0) ∧ x0 ≠ 0)
    (h : mEv d 21 [.ref x0] m (fun r m' => mEs d 36 b g36 (4, [some (.ref x0)], r.toList ++ [], m') Q)) :
    mEs d 36 b g36 (0, [some (.ref x0)], [], m) Q := by
  refine e_aload_n (pc' := 1) (dAt D36 0 rfl) rfl rfl ?_
  exact e_call2 h (dAt D36 1 rfl) (hi0 rfl) rfl G21 (by decide) rfl (Nat.le_of_ble_eq_true rfl) (kV hOx0 rfl rfl) rfl rfl
-- PlaceNets.undo.()I, from 4
set_option maxRecDepth 20000 in
theorem bk36_4 {d b : Nat} {Q : Option Value → mMem → Prop} {m : mMem} {x0 : Nat} {y0 : Int32} (hT : mWT m) (hOx0 : m.1 x0 = some (.inr 0) ∧ x0 ≠ 0) (hd1 : 1 ≤ d)
    (h : (((¬ y0 = 0) → (((¬ (iF m x0 6) = 0) → (∀ (m_1 : mMem), m_1 = (mSetF m x0 6 (.int ((iF m x0 6) - 1))) → (¬ ((iF m_1 x0 6) * 10) < 0 ∧ ¬ (0 : Int32) < 0 ∧ ¬ (10 : Int32) < 0 ∧ ((iF m_1 x0 6) * 10).toNatClampNeg + (10 : Int32).toNatClampNeg ≤ 100 ∧ (0 : Int32).toNatClampNeg + (10 : Int32).toNatClampNeg ≤ 10) ∧ (∀ (m_3 : mMem), m_3 = (mSetI m_1 (64 * x0 + 4) (va_cpy (m_1.2.2.1 (64 * x0 + 6)) (m_1.2.2.1 (64 * x0 + 4)) ((iF m_1 x0 6) * 10).toNatClampNeg (0 : Int32).toNatClampNeg (10 : Int32).toNatClampNeg)) → ∀ (m_5 : mMem), m_5 = (mSetF m_3 x0 8 (.int ((iF m_3 x0 8) + 1))) → Q (some (.int (iF m_5 x0 6))) m_5))) ∧ (¬ (¬ (iF m x0 6) = 0) → (Q (some (.int ((-3)))) m)))) ∧ (¬ (¬ y0 = 0) → (Q (some (.int ((-2)))) m)))) :
    mEs d 36 b g36 (4, [some (.ref x0)], [.int y0], m) Q := by
  refine e_if_ne (t := 10) (pc' := 7) (dAt D36 2 rfl) ⟨by decide, by decide⟩ rfl (fun c => ?_) (fun c => ?_)
  · replace h := h.1 c
    refine e_aload_n (pc' := 11) (dAt D36 5 rfl) rfl rfl ?_
    refine e_getfield (pc' := 14) (dAt D36 6 rfl) rfl rfl hOx0 (hT.int hOx0 6 (by decide)) ?_
    refine e_if_ne (t := 20) (pc' := 17) (dAt D36 7 rfl) ⟨by decide, by decide⟩ rfl (fun c => ?_) (fun c => ?_)
    · replace h := h.1 c
      refine e_aload_n (pc' := 21) (dAt D36 10 rfl) rfl rfl ?_
      refine e_dup (pc' := 22) (dAt D36 11 rfl) rfl rfl ?_
      refine e_getfield (pc' := 25) (dAt D36 12 rfl) rfl rfl hOx0 (hT.int hOx0 6 (by decide)) ?_
      refine e_iconst (pc' := 26) (v := 1) (dAt D36 13 rfl) rfl (by decide) ?_
      refine e_isub (pc' := 27) (dAt D36 14 rfl) rfl ?_
      replace h := h _ rfl
      refine e_putfield (pc' := 30) (dAt D36 15 rfl) rfl rfl hOx0 rfl rfl (fun e => by cases e) ?_
      refine wtF hT hOx0 (by decide) (fun hT_2 => ?_)
      refine e_aload_n (pc' := 31) (dAt D36 16 rfl) rfl rfl ?_
      refine e_getfield (pc' := 34) (dAt D36 17 rfl) rfl rfl hOx0 (hT_2.own hOx0 2 rfl) ?_
      refine e_aload_n (pc' := 35) (dAt D36 18 rfl) rfl rfl ?_
      refine e_getfield (pc' := 38) (dAt D36 19 rfl) rfl rfl hOx0 (hT_2.int hOx0 6 (by decide)) ?_
      refine e_bipush (pc' := 40) (v := 10) (dAt D36 20 rfl) rfl (by decide) ?_
      refine e_imul (pc' := 41) (dAt D36 21 rfl) rfl ?_
      refine e_aload_n (pc' := 42) (dAt D36 22 rfl) rfl rfl ?_
      refine e_getfield (pc' := 45) (dAt D36 23 rfl) rfl rfl hOx0 (hT_2.own hOx0 0 rfl) ?_
      refine e_iconst (pc' := 46) (v := 0) (dAt D36 24 rfl) rfl (by decide) ?_
      refine e_bipush (pc' := 48) (v := 10) (dAt D36 25 rfl) rfl (by decide) ?_
      obtain ⟨f1, h⟩ := h
      replace h := h _ rfl
      refine e_copy (pc' := 51) (dAt D36 26 rfl) rfl rfl (hT_2.arr hOx0 2 rfl (by decide)) (hT_2.arr hOx0 0 rfl (by decide)) f1 ⟨hd1, Nat.le_of_ble_eq_true rfl⟩ ?_
      refine wtI hT_2 (fun hT_4 => ?_)
      refine e_aload_n (pc' := 52) (dAt D36 27 rfl) rfl rfl ?_
      refine e_dup (pc' := 53) (dAt D36 28 rfl) rfl rfl ?_
      refine e_getfield (pc' := 56) (dAt D36 29 rfl) rfl rfl hOx0 (hT_4.int hOx0 8 (by decide)) ?_
      refine e_iconst (pc' := 57) (v := 1) (dAt D36 30 rfl) rfl (by decide) ?_
      refine e_iadd (pc' := 58) (dAt D36 31 rfl) rfl ?_
      replace h := h _ rfl
      refine e_putfield (pc' := 61) (dAt D36 32 rfl) rfl rfl hOx0 rfl rfl (fun e => by cases e) ?_
      refine wtF hT_4 hOx0 (by decide) (fun hT_6 => ?_)
      refine e_aload_n (pc' := 62) (dAt D36 33 rfl) rfl rfl ?_
      refine e_getfield (pc' := 65) (dAt D36 34 rfl) rfl rfl hOx0 (hT_6.int hOx0 6 (by decide)) ?_
      exact e_ireturn (dAt D36 35 rfl) rfl ⟨rfl, fun e => by cases e⟩ h
    · replace h := h.2 c
      refine e_bipush (pc' := 19) (v := (-3)) (dAt D36 8 rfl) rfl (by decide) ?_
      exact e_ireturn (dAt D36 9 rfl) rfl ⟨rfl, fun e => by cases e⟩ h
  · replace h := h.2 c
    refine e_bipush (pc' := 9) (v := (-2)) (dAt D36 3 rfl) rfl (by decide) ?_
    exact e_ireturn (dAt D36 4 rfl) rfl ⟨rfl, fun e => by cases e⟩ h
-- PlaceNets.goal.(II)I, from 0
set_option maxRecDepth 20000 in
theorem bk37_0 {d b : Nat} {Q : Option Value → mMem → Prop} {m : mMem} {x0 : Nat} {x1 : Int32} {x2 : Int32} {x3 : Option Value} (hT : mWT m) (hOx0 : m.1 x0 = some (.inr 0) ∧ x0 ≠ 0)
    (h : mEv d 31 [.int x2] m (fun r m' => mEs d 37 b g37 (4, [some (.ref x0), some (.int x1), some (.int x2), x3], r.toList ++ [], m') Q)) :
    mEs d 37 b g37 (0, [some (.ref x0), some (.int x1), some (.int x2), x3], [], m) Q := by
  refine e_iload_n (pc' := 1) (dAt D37 0 rfl) rfl rfl ?_
  exact e_call2 h (dAt D37 1 rfl) (hi2 rfl) rfl G31 (by decide) rfl (Nat.le_of_ble_eq_true rfl) rfl rfl rfl
-- PlaceNets.goal.(II)I, from 4
set_option maxRecDepth 20000 in
theorem bk37_4 {d b : Nat} {Q : Option Value → mMem → Prop} {m : mMem} {x0 : Nat} {x1 : Int32} {x2 : Int32} {x3 : Option Value} {y0 : Int32} (hT : mWT m) (hOx0 : m.1 x0 = some (.inr 0) ∧ x0 ≠ 0)
    (h : (((¬ y0 = 0) → (∃ (r_1 : Nat), (m.2.1 x0 1 = .ref r_1) ∧ ((m.1 r_1 = some (.inr 2) ∧ r_1 ≠ 0) ∧ (mEv d 19 [.ref r_1, .int x1] m (fun r m' => mEs d 37 b g37 (17, [some (.ref x0), some (.int x1), some (.int x2), x3], r.toList ++ [], m') Q))))) ∧ (¬ (¬ y0 = 0) → (Q (some (.int ((-1)))) m)))) :
    mEs d 37 b g37 (4, [some (.ref x0), some (.int x1), some (.int x2), x3], [.int y0], m) Q := by
  refine e_if_ne (t := 9) (pc' := 7) (dAt D37 2 rfl) ⟨by decide, by decide⟩ rfl (fun c => ?_) (fun c => ?_)
  · replace h := h.1 c
    refine e_aload_n (pc' := 10) (dAt D37 5 rfl) rfl rfl ?_
    obtain ⟨r_1, f1, f_2, h⟩ := h
    refine e_getfield (pc' := 13) (dAt D37 6 rfl) rfl rfl hOx0 f1 ?_
    refine e_iload_n (pc' := 14) (dAt D37 7 rfl) rfl rfl ?_
    exact e_call2 h (dAt D37 8 rfl) (hi0 rfl) rfl G19 (by decide) rfl (Nat.le_of_ble_eq_true rfl) (kV f_2 rfl rfl) rfl rfl
  · replace h := h.2 c
    refine e_iconst (pc' := 8) (v := (-1)) (dAt D37 3 rfl) rfl (by decide) ?_
    exact e_ireturn (dAt D37 4 rfl) rfl ⟨rfl, fun e => by cases e⟩ h
-- PlaceNets.goal.(II)I, from 17
set_option maxRecDepth 20000 in
theorem bk37_17 {d b : Nat} {Q : Option Value → mMem → Prop} {m : mMem} {x0 : Nat} {x1 : Int32} {x2 : Int32} {x3 : Option Value} {y0 : Int32} (hT : mWT m) (hOx0 : m.1 x0 = some (.inr 0) ∧ x0 ≠ 0)
    (h : (((¬ y0 = 0) → ((mIn x1 10 = true) ∧ (∀ (v_1 : Int32), v_1 = (m.2.2.1 (64 * x0 + 5) x1.toNatClampNeg) → (mIn x1 10 = true) ∧ (∀ (m_2 : mMem), m_2 = (mSetI m (64 * x0 + 5) (upd (m.2.2.1 (64 * x0 + 5)) x1.toNatClampNeg x2)) → Q (some (.int v_1)) m_2)))) ∧ (¬ (¬ y0 = 0) → (Q (some (.int ((-2)))) m)))) :
    mEs d 37 b g37 (17, [some (.ref x0), some (.int x1), some (.int x2), x3], [.int y0], m) Q := by
  refine e_if_ne (t := 23) (pc' := 20) (dAt D37 9 rfl) ⟨by decide, by decide⟩ rfl (fun c => ?_) (fun c => ?_)
  · replace h := h.1 c
    refine e_aload_n (pc' := 24) (dAt D37 12 rfl) rfl rfl ?_
    refine e_getfield (pc' := 27) (dAt D37 13 rfl) rfl rfl hOx0 (hT.own hOx0 1 rfl) ?_
    refine e_iload_n (pc' := 28) (dAt D37 14 rfl) rfl rfl ?_
    obtain ⟨f1, h⟩ := h
    refine e_iaload (pc' := 29) (dAt D37 15 rfl) rfl (hT.arr hOx0 1 rfl (by decide)).1 (Or.inl (hT.arr hOx0 1 rfl (by decide)).2) f1 rfl ?_
    replace h := h _ rfl
    refine e_istore_n (pc' := 30) (dAt D37 16 rfl) rfl (Nat.le_of_ble_eq_true rfl) rfl ?_
    refine e_aload_n (pc' := 31) (dAt D37 17 rfl) rfl rfl ?_
    refine e_getfield (pc' := 34) (dAt D37 18 rfl) rfl rfl hOx0 (hT.own hOx0 1 rfl) ?_
    refine e_iload_n (pc' := 35) (dAt D37 19 rfl) rfl rfl ?_
    refine e_iload_n (pc' := 36) (dAt D37 20 rfl) rfl rfl ?_
    obtain ⟨f1, h⟩ := h
    replace h := h _ rfl
    refine e_iastore (pc' := 37) (dAt D37 21 rfl) rfl (hT.arr hOx0 1 rfl (by decide)).1 (hT.arr hOx0 1 rfl (by decide)).2 f1 (nar_i _) ?_
    refine wtI hT (fun hT_3 => ?_)
    refine e_iload_n (pc' := 38) (dAt D37 22 rfl) rfl rfl ?_
    exact e_ireturn (dAt D37 23 rfl) rfl ⟨rfl, fun e => by cases e⟩ h
  · replace h := h.2 c
    refine e_bipush (pc' := 22) (v := (-2)) (dAt D37 10 rfl) rfl (by decide) ?_
    exact e_ireturn (dAt D37 11 rfl) rfl ⟨rfl, fun e => by cases e⟩ h
-- PlaceNets.node.(II)I, from 0
set_option maxRecDepth 20000 in
theorem bk38_0 {d b : Nat} {Q : Option Value → mMem → Prop} {m : mMem} {x0 : Nat} {x1 : Int32} {x2 : Int32} {x3 : Option Value} {x4 : Option Value} (hT : mWT m) (hOx0 : m.1 x0 = some (.inr 0) ∧ x0 ≠ 0)
    (h : (((¬ x1 = ((-1))) → (∃ (r_1 : Nat), (m.2.1 x0 1 = .ref r_1) ∧ ((m.1 r_1 = some (.inr 2) ∧ r_1 ≠ 0) ∧ (mEv d 19 [.ref r_1, .int x2] m (fun r m' => mEs d 38 b g38 (25, [some (.ref x0), some (.int x1), some (.int x2), x3, x4], r.toList ++ [], m') Q))))) ∧ (¬ (¬ x1 = ((-1))) → (((¬ x2 = 0) → (mEv d 21 [.ref x0] m (fun r m' => mEs d 38 b g38 (50, [some (.ref x0), some (.int x1), some (.int x2), some (.int 0), x4], r.toList ++ [], m') Q))) ∧ (¬ (¬ x2 = 0) → (mEv d 21 [.ref x0] m (fun r m' => mEs d 38 b g38 (50, [some (.ref x0), some (.int x1), some (.int x2), some (.int 1), x4], r.toList ++ [], m') Q))))))) :
    mEs d 38 b g38 (0, [some (.ref x0), some (.int x1), some (.int x2), x3, x4], [], m) Q := by
  refine e_iload_n (pc' := 1) (dAt D38 0 rfl) rfl rfl ?_
  refine e_iconst (pc' := 2) (v := (-1)) (dAt D38 1 rfl) rfl (by decide) ?_
  refine e_icmp_ne (t := 17) (pc' := 5) (dAt D38 2 rfl) ⟨by decide, by decide⟩ rfl (fun c => ?_) (fun c => ?_)
  · replace h := h.1 c
    refine e_aload_n (pc' := 18) (dAt D38 9 rfl) rfl rfl ?_
    obtain ⟨r_1, f1, f_2, h⟩ := h
    refine e_getfield (pc' := 21) (dAt D38 10 rfl) rfl rfl hOx0 f1 ?_
    refine e_iload_n (pc' := 22) (dAt D38 11 rfl) rfl rfl ?_
    exact e_call2 h (dAt D38 12 rfl) (hi0 rfl) rfl G19 (by decide) rfl (Nat.le_of_ble_eq_true rfl) (kV f_2 rfl rfl) rfl rfl
  · replace h := h.2 c
    refine e_iload_n (pc' := 6) (dAt D38 3 rfl) rfl rfl ?_
    refine e_if_ne (t := 13) (pc' := 9) (dAt D38 4 rfl) ⟨by decide, by decide⟩ rfl (fun c => ?_) (fun c => ?_)
    · replace h := h.1 c
      refine e_iconst (pc' := 14) (v := 0) (dAt D38 7 rfl) rfl (by decide) ?_
      refine e_goto (t := 45) (dAt D38 8 rfl) ⟨by decide, by decide⟩ ?_
      refine e_istore_n (pc' := 46) (dAt D38 23 rfl) rfl (Nat.le_of_ble_eq_true rfl) rfl ?_
      refine e_aload_n (pc' := 47) (dAt D38 24 rfl) rfl rfl ?_
      exact e_call2 h (dAt D38 25 rfl) (hi0 rfl) rfl G21 (by decide) rfl (Nat.le_of_ble_eq_true rfl) (kV hOx0 rfl rfl) rfl rfl
    · replace h := h.2 c
      refine e_iconst (pc' := 10) (v := 1) (dAt D38 5 rfl) rfl (by decide) ?_
      refine e_goto (t := 45) (dAt D38 6 rfl) ⟨by decide, by decide⟩ ?_
      refine e_istore_n (pc' := 46) (dAt D38 23 rfl) rfl (Nat.le_of_ble_eq_true rfl) rfl ?_
      refine e_aload_n (pc' := 47) (dAt D38 24 rfl) rfl rfl ?_
      exact e_call2 h (dAt D38 25 rfl) (hi0 rfl) rfl G21 (by decide) rfl (Nat.le_of_ble_eq_true rfl) (kV hOx0 rfl rfl) rfl rfl
-- PlaceNets.node.(II)I, from 25
set_option maxRecDepth 20000 in
theorem bk38_25 {d b : Nat} {Q : Option Value → mMem → Prop} {m : mMem} {x0 : Nat} {x1 : Int32} {x2 : Int32} {x3 : Option Value} {x4 : Option Value} {y0 : Int32} (hT : mWT m) (hOx0 : m.1 x0 = some (.inr 0) ∧ x0 ≠ 0)
    (h : (((¬ y0 = 0) → (mEv d 21 [.ref x0] m (fun r m' => mEs d 38 b g38 (50, [some (.ref x0), some (.int x1), some (.int x2), some (.int 1), x4], r.toList ++ [], m') Q))) ∧ (¬ (¬ y0 = 0) → (((x2 < 10) → (mEv d 21 [.ref x0] m (fun r m' => mEs d 38 b g38 (50, [some (.ref x0), some (.int x1), some (.int x2), some (.int 0), x4], r.toList ++ [], m') Q))) ∧ (¬ (x2 < 10) → (((12 < x2) → (mEv d 21 [.ref x0] m (fun r m' => mEs d 38 b g38 (50, [some (.ref x0), some (.int x1), some (.int x2), some (.int 0), x4], r.toList ++ [], m') Q))) ∧ (¬ (12 < x2) → (mEv d 21 [.ref x0] m (fun r m' => mEs d 38 b g38 (50, [some (.ref x0), some (.int x1), some (.int x2), some (.int 1), x4], r.toList ++ [], m') Q))))))))) :
    mEs d 38 b g38 (25, [some (.ref x0), some (.int x1), some (.int x2), x3, x4], [.int y0], m) Q := by
  refine e_if_ne (t := 40) (pc' := 28) (dAt D38 13 rfl) ⟨by decide, by decide⟩ rfl (fun c => ?_) (fun c => ?_)
  · replace h := h.1 c
    refine e_iconst (pc' := 41) (v := 1) (dAt D38 20 rfl) rfl (by decide) ?_
    refine e_goto (t := 45) (dAt D38 21 rfl) ⟨by decide, by decide⟩ ?_
    refine e_istore_n (pc' := 46) (dAt D38 23 rfl) rfl (Nat.le_of_ble_eq_true rfl) rfl ?_
    refine e_aload_n (pc' := 47) (dAt D38 24 rfl) rfl rfl ?_
    exact e_call2 h (dAt D38 25 rfl) (hi0 rfl) rfl G21 (by decide) rfl (Nat.le_of_ble_eq_true rfl) (kV hOx0 rfl rfl) rfl rfl
  · replace h := h.2 c
    refine e_iload_n (pc' := 29) (dAt D38 14 rfl) rfl rfl ?_
    refine e_bipush (pc' := 31) (v := 10) (dAt D38 15 rfl) rfl (by decide) ?_
    refine e_icmp_lt (t := 44) (pc' := 34) (dAt D38 16 rfl) ⟨by decide, by decide⟩ rfl (fun c => ?_) (fun c => ?_)
    · replace h := h.1 c
      refine e_iconst (pc' := 45) (v := 0) (dAt D38 22 rfl) rfl (by decide) ?_
      refine e_istore_n (pc' := 46) (dAt D38 23 rfl) rfl (Nat.le_of_ble_eq_true rfl) rfl ?_
      refine e_aload_n (pc' := 47) (dAt D38 24 rfl) rfl rfl ?_
      exact e_call2 h (dAt D38 25 rfl) (hi0 rfl) rfl G21 (by decide) rfl (Nat.le_of_ble_eq_true rfl) (kV hOx0 rfl rfl) rfl rfl
    · replace h := h.2 c
      refine e_iload_n (pc' := 35) (dAt D38 17 rfl) rfl rfl ?_
      refine e_bipush (pc' := 37) (v := 12) (dAt D38 18 rfl) rfl (by decide) ?_
      refine e_icmp_gt (t := 44) (pc' := 40) (dAt D38 19 rfl) ⟨by decide, by decide⟩ rfl (fun c => ?_) (fun c => ?_)
      · replace h := h.1 c
        refine e_iconst (pc' := 45) (v := 0) (dAt D38 22 rfl) rfl (by decide) ?_
        refine e_istore_n (pc' := 46) (dAt D38 23 rfl) rfl (Nat.le_of_ble_eq_true rfl) rfl ?_
        refine e_aload_n (pc' := 47) (dAt D38 24 rfl) rfl rfl ?_
        exact e_call2 h (dAt D38 25 rfl) (hi0 rfl) rfl G21 (by decide) rfl (Nat.le_of_ble_eq_true rfl) (kV hOx0 rfl rfl) rfl rfl
      · replace h := h.2 c
        refine e_iconst (pc' := 41) (v := 1) (dAt D38 20 rfl) rfl (by decide) ?_
        refine e_goto (t := 45) (dAt D38 21 rfl) ⟨by decide, by decide⟩ ?_
        refine e_istore_n (pc' := 46) (dAt D38 23 rfl) rfl (Nat.le_of_ble_eq_true rfl) rfl ?_
        refine e_aload_n (pc' := 47) (dAt D38 24 rfl) rfl rfl ?_
        exact e_call2 h (dAt D38 25 rfl) (hi0 rfl) rfl G21 (by decide) rfl (Nat.le_of_ble_eq_true rfl) (kV hOx0 rfl rfl) rfl rfl
-- PlaceNets.node.(II)I, from 50
set_option maxRecDepth 20000 in
theorem bk38_50 {d b : Nat} {Q : Option Value → mMem → Prop} {m : mMem} {x0 : Nat} {x1 : Int32} {x2 : Int32} {x3 : Int32} {x4 : Option Value} {y0 : Int32} (hT : mWT m) (hOx0 : m.1 x0 = some (.inr 0) ∧ x0 ≠ 0)
    (h : (((y0 = 0) → (Q (some (.int ((-1)))) m)) ∧ (¬ (y0 = 0) → (((x1 < ((-1))) → (Q (some (.int ((-1)))) m)) ∧ (¬ (x1 < ((-1))) → (((¬ x3 = 0) → (mEv d 39 [.ref x0] m (fun r m' => mEs d 38 b g38 (68, [some (.ref x0), some (.int x1), some (.int x2), some (.int x3), x4], r.toList ++ [], m') Q))) ∧ (¬ (¬ x3 = 0) → (Q (some (.int ((-1)))) m)))))))) :
    mEs d 38 b g38 (50, [some (.ref x0), some (.int x1), some (.int x2), some (.int x3), x4], [.int y0], m) Q := by
  refine e_if_eq (t := 62) (pc' := 53) (dAt D38 26 rfl) ⟨by decide, by decide⟩ rfl (fun c => ?_) (fun c => ?_)
  · replace h := h.1 c
    refine e_iconst (pc' := 63) (v := (-1)) (dAt D38 32 rfl) rfl (by decide) ?_
    exact e_ireturn (dAt D38 33 rfl) rfl ⟨rfl, fun e => by cases e⟩ h
  · replace h := h.2 c
    refine e_iload_n (pc' := 54) (dAt D38 27 rfl) rfl rfl ?_
    refine e_iconst (pc' := 55) (v := (-1)) (dAt D38 28 rfl) rfl (by decide) ?_
    refine e_icmp_lt (t := 62) (pc' := 58) (dAt D38 29 rfl) ⟨by decide, by decide⟩ rfl (fun c => ?_) (fun c => ?_)
    · replace h := h.1 c
      refine e_iconst (pc' := 63) (v := (-1)) (dAt D38 32 rfl) rfl (by decide) ?_
      exact e_ireturn (dAt D38 33 rfl) rfl ⟨rfl, fun e => by cases e⟩ h
    · replace h := h.2 c
      refine e_iload_n (pc' := 59) (dAt D38 30 rfl) rfl rfl ?_
      refine e_if_ne (t := 64) (pc' := 62) (dAt D38 31 rfl) ⟨by decide, by decide⟩ rfl (fun c => ?_) (fun c => ?_)
      · replace h := h.1 c
        refine e_aload_n (pc' := 65) (dAt D38 34 rfl) rfl rfl ?_
        exact e_call2 h (dAt D38 35 rfl) (hi0 rfl) rfl G39 (by decide) rfl (Nat.le_of_ble_eq_true rfl) (kV hOx0 rfl rfl) rfl rfl
      · replace h := h.2 c
        refine e_iconst (pc' := 63) (v := (-1)) (dAt D38 32 rfl) rfl (by decide) ?_
        exact e_ireturn (dAt D38 33 rfl) rfl ⟨rfl, fun e => by cases e⟩ h
-- PlaceNets.node.(II)I, from 68
set_option maxRecDepth 20000 in
theorem bk38_68 {d b : Nat} {Q : Option Value → mMem → Prop} {m : mMem} {x0 : Nat} {x1 : Int32} {x2 : Int32} {x3 : Int32} {x4 : Option Value} {y0 : Nat} (hT : mWT m) (hOx0 : m.1 x0 = some (.inr 0) ∧ x0 ≠ 0) (hOy0 : m.1 y0 = some (.inr 3) ∧ y0 ≠ 0)
    (h : ((((iF m y0 2) = 0) → (((¬ x1 = ((-1))) → (mEv d 49 [.ref y0, .int x1, .int x2] m (fun r m' => mEs d 38 b g38 (101, [some (.ref x0), some (.int x1), some (.int x2), some (.int x3), some (.ref y0)], r.toList ++ [], m') Q))) ∧ (¬ (¬ x1 = ((-1))) → (mEs d 38 b g38 (101, [some (.ref x0), some (.int x1), some (.int x2), some (.int x3), some (.ref y0)], [.int (iF m y0 1)], m) Q)))) ∧ (¬ ((iF m y0 2) = 0) → (Q (some (.int ((-2)))) m)))) :
    mEs d 38 b g38 (68, [some (.ref x0), some (.int x1), some (.int x2), some (.int x3), x4], [.ref y0], m) Q := by
  refine e_astore (pc' := 70) (dAt D38 36 rfl) rfl (Nat.le_of_ble_eq_true rfl) rfl ?_
  refine e_aload (pc' := 72) (dAt D38 37 rfl) rfl rfl ?_
  refine e_getfield (pc' := 75) (dAt D38 38 rfl) rfl rfl hOy0 (hT.int hOy0 2 (by decide)) ?_
  refine e_if_eq (t := 81) (pc' := 78) (dAt D38 39 rfl) ⟨by decide, by decide⟩ rfl (fun c => ?_) (fun c => ?_)
  · replace h := h.1 c
    refine e_iload_n (pc' := 82) (dAt D38 42 rfl) rfl rfl ?_
    refine e_iconst (pc' := 83) (v := (-1)) (dAt D38 43 rfl) rfl (by decide) ?_
    refine e_icmp_ne (t := 94) (pc' := 86) (dAt D38 44 rfl) ⟨by decide, by decide⟩ rfl (fun c => ?_) (fun c => ?_)
    · replace h := h.1 c
      refine e_aload (pc' := 96) (dAt D38 48 rfl) rfl rfl ?_
      refine e_iload_n (pc' := 97) (dAt D38 49 rfl) rfl rfl ?_
      refine e_iload_n (pc' := 98) (dAt D38 50 rfl) rfl rfl ?_
      exact e_call2 h (dAt D38 51 rfl) (hi0 rfl) rfl G49 (by decide) rfl (Nat.le_of_ble_eq_true rfl) (kV hOy0 rfl rfl) rfl rfl
    · replace h := h.2 c
      refine e_aload (pc' := 88) (dAt D38 45 rfl) rfl rfl ?_
      refine e_getfield (pc' := 91) (dAt D38 46 rfl) rfl rfl hOy0 (hT.int hOy0 1 (by decide)) ?_
      refine e_goto (t := 101) (dAt D38 47 rfl) ⟨by decide, by decide⟩ ?_
      exact h
  · replace h := h.2 c
    refine e_bipush (pc' := 80) (v := (-2)) (dAt D38 40 rfl) rfl (by decide) ?_
    exact e_ireturn (dAt D38 41 rfl) rfl ⟨rfl, fun e => by cases e⟩ h
-- PlaceNets.node.(II)I, from 101
set_option maxRecDepth 20000 in
theorem bk38_101 {d b : Nat} {Q : Option Value → mMem → Prop} {m : mMem} {x0 : Nat} {x1 : Int32} {x2 : Int32} {x3 : Int32} {x4 : Nat} {y0 : Int32} (hT : mWT m) (hOx0 : m.1 x0 = some (.inr 0) ∧ x0 ≠ 0) (hOx4 : m.1 x4 = some (.inr 3) ∧ x4 ≠ 0)
    (h : Q (some (.int y0)) m) :
    mEs d 38 b g38 (101, [some (.ref x0), some (.int x1), some (.int x2), some (.int x3), some (.ref x4)], [.int y0], m) Q := by
  exact e_ireturn (dAt D38 52 rfl) rfl ⟨rfl, fun e => by cases e⟩ h
-- PlaceNets.bound.(I)I, from 0
set_option maxRecDepth 20000 in
theorem bk51_0 {d b : Nat} {Q : Option Value → mMem → Prop} {m : mMem} {x0 : Nat} {x1 : Int32} {x2 : Option Value} (hT : mWT m) (hOx0 : m.1 x0 = some (.inr 0) ∧ x0 ≠ 0)
    (h : ∃ (r_1 : Nat), (m.2.1 x0 1 = .ref r_1) ∧ ((m.1 r_1 = some (.inr 2) ∧ r_1 ≠ 0) ∧ (mEv d 19 [.ref r_1, .int x1] m (fun r m' => mEs d 51 b g51 (8, [some (.ref x0), some (.int x1), x2], r.toList ++ [], m') Q)))) :
    mEs d 51 b g51 (0, [some (.ref x0), some (.int x1), x2], [], m) Q := by
  refine e_aload_n (pc' := 1) (dAt D51 0 rfl) rfl rfl ?_
  obtain ⟨r_1, f1, f_2, h⟩ := h
  refine e_getfield (pc' := 4) (dAt D51 1 rfl) rfl rfl hOx0 f1 ?_
  refine e_iload_n (pc' := 5) (dAt D51 2 rfl) rfl rfl ?_
  exact e_call2 h (dAt D51 3 rfl) (hi0 rfl) rfl G19 (by decide) rfl (Nat.le_of_ble_eq_true rfl) (kV f_2 rfl rfl) rfl rfl
-- PlaceNets.bound.(I)I, from 8
set_option maxRecDepth 20000 in
theorem bk51_8 {d b : Nat} {Q : Option Value → mMem → Prop} {m : mMem} {x0 : Nat} {x1 : Int32} {x2 : Option Value} {y0 : Int32} (hT : mWT m) (hOx0 : m.1 x0 = some (.inr 0) ∧ x0 ≠ 0)
    (h : (((¬ y0 = 0) → (mEv d 39 [.ref x0] m (fun r m' => mEs d 51 b g51 (17, [some (.ref x0), some (.int x1), x2], r.toList ++ [], m') Q))) ∧ (¬ (¬ y0 = 0) → (Q (some (.int ((-1)))) m)))) :
    mEs d 51 b g51 (8, [some (.ref x0), some (.int x1), x2], [.int y0], m) Q := by
  refine e_if_ne (t := 13) (pc' := 11) (dAt D51 4 rfl) ⟨by decide, by decide⟩ rfl (fun c => ?_) (fun c => ?_)
  · replace h := h.1 c
    refine e_aload_n (pc' := 14) (dAt D51 7 rfl) rfl rfl ?_
    exact e_call2 h (dAt D51 8 rfl) (hi0 rfl) rfl G39 (by decide) rfl (Nat.le_of_ble_eq_true rfl) (kV hOx0 rfl rfl) rfl rfl
  · replace h := h.2 c
    refine e_iconst (pc' := 12) (v := (-1)) (dAt D51 5 rfl) rfl (by decide) ?_
    exact e_ireturn (dAt D51 6 rfl) rfl ⟨rfl, fun e => by cases e⟩ h
-- PlaceNets.bound.(I)I, from 17
set_option maxRecDepth 20000 in
theorem bk51_17 {d b : Nat} {Q : Option Value → mMem → Prop} {m : mMem} {x0 : Nat} {x1 : Int32} {x2 : Option Value} {y0 : Nat} (hT : mWT m) (hOx0 : m.1 x0 = some (.inr 0) ∧ x0 ≠ 0) (hOy0 : m.1 y0 = some (.inr 3) ∧ y0 ≠ 0)
    (h : ((((iF m y0 2) = 0) → (mEv d 52 [.ref y0, .int x1] m (fun r m' => mEs d 51 b g51 (35, [some (.ref x0), some (.int x1), some (.ref y0)], r.toList ++ [], m') Q))) ∧ (¬ ((iF m y0 2) = 0) → (mEs d 51 b g51 (35, [some (.ref x0), some (.int x1), some (.ref y0)], [.int ((-2))], m) Q)))) :
    mEs d 51 b g51 (17, [some (.ref x0), some (.int x1), x2], [.ref y0], m) Q := by
  refine e_astore_n (pc' := 18) (dAt D51 9 rfl) rfl (Nat.le_of_ble_eq_true rfl) rfl ?_
  refine e_aload_n (pc' := 19) (dAt D51 10 rfl) rfl rfl ?_
  refine e_getfield (pc' := 22) (dAt D51 11 rfl) rfl rfl hOy0 (hT.int hOy0 2 (by decide)) ?_
  refine e_if_eq (t := 30) (pc' := 25) (dAt D51 12 rfl) ⟨by decide, by decide⟩ rfl (fun c => ?_) (fun c => ?_)
  · replace h := h.1 c
    refine e_aload_n (pc' := 31) (dAt D51 15 rfl) rfl rfl ?_
    refine e_iload_n (pc' := 32) (dAt D51 16 rfl) rfl rfl ?_
    exact e_call2 h (dAt D51 17 rfl) (hi0 rfl) rfl G52 (by decide) rfl (Nat.le_of_ble_eq_true rfl) (kV hOy0 rfl rfl) rfl rfl
  · replace h := h.2 c
    refine e_bipush (pc' := 27) (v := (-2)) (dAt D51 13 rfl) rfl (by decide) ?_
    refine e_goto (t := 35) (dAt D51 14 rfl) ⟨by decide, by decide⟩ ?_
    exact h
-- PlaceNets.bound.(I)I, from 35
set_option maxRecDepth 20000 in
theorem bk51_35 {d b : Nat} {Q : Option Value → mMem → Prop} {m : mMem} {x0 : Nat} {x1 : Int32} {x2 : Nat} {y0 : Int32} (hT : mWT m) (hOx0 : m.1 x0 = some (.inr 0) ∧ x0 ≠ 0) (hOx2 : m.1 x2 = some (.inr 3) ∧ x2 ≠ 0)
    (h : Q (some (.int y0)) m) :
    mEs d 51 b g51 (35, [some (.ref x0), some (.int x1), some (.ref x2)], [.int y0], m) Q := by
  exact e_ireturn (dAt D51 18 rfl) rfl ⟨rfl, fun e => by cases e⟩ h
-- PlaceNets.covers.(I)I, from 0
set_option maxRecDepth 20000 in
theorem bk53_0 {d b : Nat} {Q : Option Value → mMem → Prop} {m : mMem} {x0 : Nat} {x1 : Int32} {x2 : Option Value} (hT : mWT m) (hOx0 : m.1 x0 = some (.inr 0) ∧ x0 ≠ 0)
    (h : mEv d 21 [.ref x0] m (fun r m' => mEs d 53 b g53 (4, [some (.ref x0), some (.int x1), x2], r.toList ++ [], m') Q)) :
    mEs d 53 b g53 (0, [some (.ref x0), some (.int x1), x2], [], m) Q := by
  refine e_aload_n (pc' := 1) (dAt D53 0 rfl) rfl rfl ?_
  exact e_call2 h (dAt D53 1 rfl) (hi0 rfl) rfl G21 (by decide) rfl (Nat.le_of_ble_eq_true rfl) (kV hOx0 rfl rfl) rfl rfl
-- PlaceNets.covers.(I)I, from 4
set_option maxRecDepth 20000 in
theorem bk53_4 {d b : Nat} {Q : Option Value → mMem → Prop} {m : mMem} {x0 : Nat} {x1 : Int32} {x2 : Option Value} {y0 : Int32} (hT : mWT m) (hOx0 : m.1 x0 = some (.inr 0) ∧ x0 ≠ 0)
    (h : (((y0 = 0) → (Q (some (.int ((-1)))) m)) ∧ (¬ (y0 = 0) → (((x1 < 0) → (Q (some (.int ((-1)))) m)) ∧ (¬ (x1 < 0) → (((x1 ≤ 1) → (mEv d 39 [.ref x0] m (fun r m' => mEs d 53 b g53 (22, [some (.ref x0), some (.int x1), x2], r.toList ++ [], m') Q))) ∧ (¬ (x1 ≤ 1) → (Q (some (.int ((-1)))) m)))))))) :
    mEs d 53 b g53 (4, [some (.ref x0), some (.int x1), x2], [.int y0], m) Q := by
  refine e_if_eq (t := 16) (pc' := 7) (dAt D53 2 rfl) ⟨by decide, by decide⟩ rfl (fun c => ?_) (fun c => ?_)
  · replace h := h.1 c
    refine e_iconst (pc' := 17) (v := (-1)) (dAt D53 8 rfl) rfl (by decide) ?_
    exact e_ireturn (dAt D53 9 rfl) rfl ⟨rfl, fun e => by cases e⟩ h
  · replace h := h.2 c
    refine e_iload_n (pc' := 8) (dAt D53 3 rfl) rfl rfl ?_
    refine e_if_lt (t := 16) (pc' := 11) (dAt D53 4 rfl) ⟨by decide, by decide⟩ rfl (fun c => ?_) (fun c => ?_)
    · replace h := h.1 c
      refine e_iconst (pc' := 17) (v := (-1)) (dAt D53 8 rfl) rfl (by decide) ?_
      exact e_ireturn (dAt D53 9 rfl) rfl ⟨rfl, fun e => by cases e⟩ h
    · replace h := h.2 c
      refine e_iload_n (pc' := 12) (dAt D53 5 rfl) rfl rfl ?_
      refine e_iconst (pc' := 13) (v := 1) (dAt D53 6 rfl) rfl (by decide) ?_
      refine e_icmp_le (t := 18) (pc' := 16) (dAt D53 7 rfl) ⟨by decide, by decide⟩ rfl (fun c => ?_) (fun c => ?_)
      · replace h := h.1 c
        refine e_aload_n (pc' := 19) (dAt D53 10 rfl) rfl rfl ?_
        exact e_call2 h (dAt D53 11 rfl) (hi0 rfl) rfl G39 (by decide) rfl (Nat.le_of_ble_eq_true rfl) (kV hOx0 rfl rfl) rfl rfl
      · replace h := h.2 c
        refine e_iconst (pc' := 17) (v := (-1)) (dAt D53 8 rfl) rfl (by decide) ?_
        exact e_ireturn (dAt D53 9 rfl) rfl ⟨rfl, fun e => by cases e⟩ h
-- PlaceNets.covers.(I)I, from 22
set_option maxRecDepth 20000 in
theorem bk53_22 {d b : Nat} {Q : Option Value → mMem → Prop} {m : mMem} {x0 : Nat} {x1 : Int32} {x2 : Option Value} {y0 : Nat} (hT : mWT m) (hOx0 : m.1 x0 = some (.inr 0) ∧ x0 ≠ 0) (hOy0 : m.1 y0 = some (.inr 3) ∧ y0 ≠ 0)
    (h : ((((iF m y0 2) = 0) → (((¬ x1 = 0) → (mEv d 56 [.ref y0, .ref (64 * x0 + 5)] m (fun r m' => mEs d 53 b g53 (56, [some (.ref x0), some (.int x1), some (.ref y0)], r.toList ++ [], m') Q))) ∧ (¬ (¬ x1 = 0) → (mEv d 54 [.ref y0, .ref (64 * x0 + 5)] m (fun r m' => mEs d 53 b g53 (45, [some (.ref x0), some (.int x1), some (.ref y0)], r.toList ++ [], m') Q))))) ∧ (¬ ((iF m y0 2) = 0) → (Q (some (.int ((-2)))) m)))) :
    mEs d 53 b g53 (22, [some (.ref x0), some (.int x1), x2], [.ref y0], m) Q := by
  refine e_astore_n (pc' := 23) (dAt D53 12 rfl) rfl (Nat.le_of_ble_eq_true rfl) rfl ?_
  refine e_aload_n (pc' := 24) (dAt D53 13 rfl) rfl rfl ?_
  refine e_getfield (pc' := 27) (dAt D53 14 rfl) rfl rfl hOy0 (hT.int hOy0 2 (by decide)) ?_
  refine e_if_eq (t := 33) (pc' := 30) (dAt D53 15 rfl) ⟨by decide, by decide⟩ rfl (fun c => ?_) (fun c => ?_)
  · replace h := h.1 c
    refine e_iload_n (pc' := 34) (dAt D53 18 rfl) rfl rfl ?_
    refine e_if_ne (t := 48) (pc' := 37) (dAt D53 19 rfl) ⟨by decide, by decide⟩ rfl (fun c => ?_) (fun c => ?_)
    · replace h := h.1 c
      refine e_aload_n (pc' := 49) (dAt D53 25 rfl) rfl rfl ?_
      refine e_aload_n (pc' := 50) (dAt D53 26 rfl) rfl rfl ?_
      refine e_getfield (pc' := 53) (dAt D53 27 rfl) rfl rfl hOx0 (hT.own hOx0 1 rfl) ?_
      exact e_call2 h (dAt D53 28 rfl) (hi0 rfl) rfl G56 (by decide) rfl (Nat.le_of_ble_eq_true rfl) (kV hOy0 rfl rfl) rfl rfl
    · replace h := h.2 c
      refine e_aload_n (pc' := 38) (dAt D53 20 rfl) rfl rfl ?_
      refine e_aload_n (pc' := 39) (dAt D53 21 rfl) rfl rfl ?_
      refine e_getfield (pc' := 42) (dAt D53 22 rfl) rfl rfl hOx0 (hT.own hOx0 1 rfl) ?_
      exact e_call2 h (dAt D53 23 rfl) (hi0 rfl) rfl G54 (by decide) rfl (Nat.le_of_ble_eq_true rfl) (kV hOy0 rfl rfl) rfl rfl
  · replace h := h.2 c
    refine e_bipush (pc' := 32) (v := (-2)) (dAt D53 16 rfl) rfl (by decide) ?_
    exact e_ireturn (dAt D53 17 rfl) rfl ⟨rfl, fun e => by cases e⟩ h
-- PlaceNets.covers.(I)I, from 45
set_option maxRecDepth 20000 in
theorem bk53_45 {d b : Nat} {Q : Option Value → mMem → Prop} {m : mMem} {x0 : Nat} {x1 : Int32} {x2 : Nat} {y0 : Int32} (hT : mWT m) (hOx0 : m.1 x0 = some (.inr 0) ∧ x0 ≠ 0) (hOx2 : m.1 x2 = some (.inr 3) ∧ x2 ≠ 0)
    (h : mEs d 53 b g53 (56, [some (.ref x0), some (.int x1), some (.ref x2)], [.int y0], m) Q) :
    mEs d 53 b g53 (45, [some (.ref x0), some (.int x1), some (.ref x2)], [.int y0], m) Q := by
  refine e_goto (t := 56) (dAt D53 24 rfl) ⟨by decide, by decide⟩ ?_
  exact h
-- PlaceNets.covers.(I)I, from 56
set_option maxRecDepth 20000 in
theorem bk53_56 {d b : Nat} {Q : Option Value → mMem → Prop} {m : mMem} {x0 : Nat} {x1 : Int32} {x2 : Nat} {y0 : Int32} (hT : mWT m) (hOx0 : m.1 x0 = some (.inr 0) ∧ x0 ≠ 0) (hOx2 : m.1 x2 = some (.inr 3) ∧ x2 ≠ 0)
    (h : Q (some (.int y0)) m) :
    mEs d 53 b g53 (56, [some (.ref x0), some (.int x1), some (.ref x2)], [.int y0], m) Q := by
  exact e_ireturn (dAt D53 29 rfl) rfl ⟨rfl, fun e => by cases e⟩ h
-- PlaceNets.reached.(II)I, from 0
set_option maxRecDepth 20000 in
theorem bk57_0 {d b : Nat} {Q : Option Value → mMem → Prop} {m : mMem} {x0 : Nat} {x1 : Int32} {x2 : Int32} {x3 : Option Value} {x4 : Option Value} (hT : mWT m) (hOx0 : m.1 x0 = some (.inr 0) ∧ x0 ≠ 0)
    (h : (((¬ x1 = ((-1))) → (∃ (r_1 : Nat), (m.2.1 x0 1 = .ref r_1) ∧ ((m.1 r_1 = some (.inr 2) ∧ r_1 ≠ 0) ∧ (mEv d 19 [.ref r_1, .int x2] m (fun r m' => mEs d 57 b g57 (25, [some (.ref x0), some (.int x1), some (.int x2), x3, x4], r.toList ++ [], m') Q))))) ∧ (¬ (¬ x1 = ((-1))) → (((¬ x2 = 0) → (mEv d 21 [.ref x0] m (fun r m' => mEs d 57 b g57 (50, [some (.ref x0), some (.int x1), some (.int x2), some (.int 0), x4], r.toList ++ [], m') Q))) ∧ (¬ (¬ x2 = 0) → (mEv d 21 [.ref x0] m (fun r m' => mEs d 57 b g57 (50, [some (.ref x0), some (.int x1), some (.int x2), some (.int 1), x4], r.toList ++ [], m') Q))))))) :
    mEs d 57 b g57 (0, [some (.ref x0), some (.int x1), some (.int x2), x3, x4], [], m) Q := by
  refine e_iload_n (pc' := 1) (dAt D57 0 rfl) rfl rfl ?_
  refine e_iconst (pc' := 2) (v := (-1)) (dAt D57 1 rfl) rfl (by decide) ?_
  refine e_icmp_ne (t := 17) (pc' := 5) (dAt D57 2 rfl) ⟨by decide, by decide⟩ rfl (fun c => ?_) (fun c => ?_)
  · replace h := h.1 c
    refine e_aload_n (pc' := 18) (dAt D57 9 rfl) rfl rfl ?_
    obtain ⟨r_1, f1, f_2, h⟩ := h
    refine e_getfield (pc' := 21) (dAt D57 10 rfl) rfl rfl hOx0 f1 ?_
    refine e_iload_n (pc' := 22) (dAt D57 11 rfl) rfl rfl ?_
    exact e_call2 h (dAt D57 12 rfl) (hi0 rfl) rfl G19 (by decide) rfl (Nat.le_of_ble_eq_true rfl) (kV f_2 rfl rfl) rfl rfl
  · replace h := h.2 c
    refine e_iload_n (pc' := 6) (dAt D57 3 rfl) rfl rfl ?_
    refine e_if_ne (t := 13) (pc' := 9) (dAt D57 4 rfl) ⟨by decide, by decide⟩ rfl (fun c => ?_) (fun c => ?_)
    · replace h := h.1 c
      refine e_iconst (pc' := 14) (v := 0) (dAt D57 7 rfl) rfl (by decide) ?_
      refine e_goto (t := 45) (dAt D57 8 rfl) ⟨by decide, by decide⟩ ?_
      refine e_istore_n (pc' := 46) (dAt D57 23 rfl) rfl (Nat.le_of_ble_eq_true rfl) rfl ?_
      refine e_aload_n (pc' := 47) (dAt D57 24 rfl) rfl rfl ?_
      exact e_call2 h (dAt D57 25 rfl) (hi0 rfl) rfl G21 (by decide) rfl (Nat.le_of_ble_eq_true rfl) (kV hOx0 rfl rfl) rfl rfl
    · replace h := h.2 c
      refine e_iconst (pc' := 10) (v := 1) (dAt D57 5 rfl) rfl (by decide) ?_
      refine e_goto (t := 45) (dAt D57 6 rfl) ⟨by decide, by decide⟩ ?_
      refine e_istore_n (pc' := 46) (dAt D57 23 rfl) rfl (Nat.le_of_ble_eq_true rfl) rfl ?_
      refine e_aload_n (pc' := 47) (dAt D57 24 rfl) rfl rfl ?_
      exact e_call2 h (dAt D57 25 rfl) (hi0 rfl) rfl G21 (by decide) rfl (Nat.le_of_ble_eq_true rfl) (kV hOx0 rfl rfl) rfl rfl
-- PlaceNets.reached.(II)I, from 25
set_option maxRecDepth 20000 in
theorem bk57_25 {d b : Nat} {Q : Option Value → mMem → Prop} {m : mMem} {x0 : Nat} {x1 : Int32} {x2 : Int32} {x3 : Option Value} {x4 : Option Value} {y0 : Int32} (hT : mWT m) (hOx0 : m.1 x0 = some (.inr 0) ∧ x0 ≠ 0)
    (h : (((¬ y0 = 0) → (mEv d 21 [.ref x0] m (fun r m' => mEs d 57 b g57 (50, [some (.ref x0), some (.int x1), some (.int x2), some (.int 1), x4], r.toList ++ [], m') Q))) ∧ (¬ (¬ y0 = 0) → (((x2 = 10) → (mEv d 21 [.ref x0] m (fun r m' => mEs d 57 b g57 (50, [some (.ref x0), some (.int x1), some (.int x2), some (.int 1), x4], r.toList ++ [], m') Q))) ∧ (¬ (x2 = 10) → (((¬ x2 = 11) → (mEv d 21 [.ref x0] m (fun r m' => mEs d 57 b g57 (50, [some (.ref x0), some (.int x1), some (.int x2), some (.int 0), x4], r.toList ++ [], m') Q))) ∧ (¬ (¬ x2 = 11) → (mEv d 21 [.ref x0] m (fun r m' => mEs d 57 b g57 (50, [some (.ref x0), some (.int x1), some (.int x2), some (.int 1), x4], r.toList ++ [], m') Q))))))))) :
    mEs d 57 b g57 (25, [some (.ref x0), some (.int x1), some (.int x2), x3, x4], [.int y0], m) Q := by
  refine e_if_ne (t := 40) (pc' := 28) (dAt D57 13 rfl) ⟨by decide, by decide⟩ rfl (fun c => ?_) (fun c => ?_)
  · replace h := h.1 c
    refine e_iconst (pc' := 41) (v := 1) (dAt D57 20 rfl) rfl (by decide) ?_
    refine e_goto (t := 45) (dAt D57 21 rfl) ⟨by decide, by decide⟩ ?_
    refine e_istore_n (pc' := 46) (dAt D57 23 rfl) rfl (Nat.le_of_ble_eq_true rfl) rfl ?_
    refine e_aload_n (pc' := 47) (dAt D57 24 rfl) rfl rfl ?_
    exact e_call2 h (dAt D57 25 rfl) (hi0 rfl) rfl G21 (by decide) rfl (Nat.le_of_ble_eq_true rfl) (kV hOx0 rfl rfl) rfl rfl
  · replace h := h.2 c
    refine e_iload_n (pc' := 29) (dAt D57 14 rfl) rfl rfl ?_
    refine e_bipush (pc' := 31) (v := 10) (dAt D57 15 rfl) rfl (by decide) ?_
    refine e_icmp_eq (t := 40) (pc' := 34) (dAt D57 16 rfl) ⟨by decide, by decide⟩ rfl (fun c => ?_) (fun c => ?_)
    · replace h := h.1 c
      refine e_iconst (pc' := 41) (v := 1) (dAt D57 20 rfl) rfl (by decide) ?_
      refine e_goto (t := 45) (dAt D57 21 rfl) ⟨by decide, by decide⟩ ?_
      refine e_istore_n (pc' := 46) (dAt D57 23 rfl) rfl (Nat.le_of_ble_eq_true rfl) rfl ?_
      refine e_aload_n (pc' := 47) (dAt D57 24 rfl) rfl rfl ?_
      exact e_call2 h (dAt D57 25 rfl) (hi0 rfl) rfl G21 (by decide) rfl (Nat.le_of_ble_eq_true rfl) (kV hOx0 rfl rfl) rfl rfl
    · replace h := h.2 c
      refine e_iload_n (pc' := 35) (dAt D57 17 rfl) rfl rfl ?_
      refine e_bipush (pc' := 37) (v := 11) (dAt D57 18 rfl) rfl (by decide) ?_
      refine e_icmp_ne (t := 44) (pc' := 40) (dAt D57 19 rfl) ⟨by decide, by decide⟩ rfl (fun c => ?_) (fun c => ?_)
      · replace h := h.1 c
        refine e_iconst (pc' := 45) (v := 0) (dAt D57 22 rfl) rfl (by decide) ?_
        refine e_istore_n (pc' := 46) (dAt D57 23 rfl) rfl (Nat.le_of_ble_eq_true rfl) rfl ?_
        refine e_aload_n (pc' := 47) (dAt D57 24 rfl) rfl rfl ?_
        exact e_call2 h (dAt D57 25 rfl) (hi0 rfl) rfl G21 (by decide) rfl (Nat.le_of_ble_eq_true rfl) (kV hOx0 rfl rfl) rfl rfl
      · replace h := h.2 c
        refine e_iconst (pc' := 41) (v := 1) (dAt D57 20 rfl) rfl (by decide) ?_
        refine e_goto (t := 45) (dAt D57 21 rfl) ⟨by decide, by decide⟩ ?_
        refine e_istore_n (pc' := 46) (dAt D57 23 rfl) rfl (Nat.le_of_ble_eq_true rfl) rfl ?_
        refine e_aload_n (pc' := 47) (dAt D57 24 rfl) rfl rfl ?_
        exact e_call2 h (dAt D57 25 rfl) (hi0 rfl) rfl G21 (by decide) rfl (Nat.le_of_ble_eq_true rfl) (kV hOx0 rfl rfl) rfl rfl
-- PlaceNets.reached.(II)I, from 50
set_option maxRecDepth 20000 in
theorem bk57_50 {d b : Nat} {Q : Option Value → mMem → Prop} {m : mMem} {x0 : Nat} {x1 : Int32} {x2 : Int32} {x3 : Int32} {x4 : Option Value} {y0 : Int32} (hT : mWT m) (hOx0 : m.1 x0 = some (.inr 0) ∧ x0 ≠ 0)
    (h : (((y0 = 0) → (Q (some (.int ((-1)))) m)) ∧ (¬ (y0 = 0) → (((x1 < ((-1))) → (Q (some (.int ((-1)))) m)) ∧ (¬ (x1 < ((-1))) → (((¬ x3 = 0) → (mEv d 58 [.ref x0] m (fun r m' => mEs d 57 b g57 (68, [some (.ref x0), some (.int x1), some (.int x2), some (.int x3), x4], r.toList ++ [], m') Q))) ∧ (¬ (¬ x3 = 0) → (Q (some (.int ((-1)))) m)))))))) :
    mEs d 57 b g57 (50, [some (.ref x0), some (.int x1), some (.int x2), some (.int x3), x4], [.int y0], m) Q := by
  refine e_if_eq (t := 62) (pc' := 53) (dAt D57 26 rfl) ⟨by decide, by decide⟩ rfl (fun c => ?_) (fun c => ?_)
  · replace h := h.1 c
    refine e_iconst (pc' := 63) (v := (-1)) (dAt D57 32 rfl) rfl (by decide) ?_
    exact e_ireturn (dAt D57 33 rfl) rfl ⟨rfl, fun e => by cases e⟩ h
  · replace h := h.2 c
    refine e_iload_n (pc' := 54) (dAt D57 27 rfl) rfl rfl ?_
    refine e_iconst (pc' := 55) (v := (-1)) (dAt D57 28 rfl) rfl (by decide) ?_
    refine e_icmp_lt (t := 62) (pc' := 58) (dAt D57 29 rfl) ⟨by decide, by decide⟩ rfl (fun c => ?_) (fun c => ?_)
    · replace h := h.1 c
      refine e_iconst (pc' := 63) (v := (-1)) (dAt D57 32 rfl) rfl (by decide) ?_
      exact e_ireturn (dAt D57 33 rfl) rfl ⟨rfl, fun e => by cases e⟩ h
    · replace h := h.2 c
      refine e_iload_n (pc' := 59) (dAt D57 30 rfl) rfl rfl ?_
      refine e_if_ne (t := 64) (pc' := 62) (dAt D57 31 rfl) ⟨by decide, by decide⟩ rfl (fun c => ?_) (fun c => ?_)
      · replace h := h.1 c
        refine e_aload_n (pc' := 65) (dAt D57 34 rfl) rfl rfl ?_
        exact e_call2 h (dAt D57 35 rfl) (hi0 rfl) rfl G58 (by decide) rfl (Nat.le_of_ble_eq_true rfl) (kV hOx0 rfl rfl) rfl rfl
      · replace h := h.2 c
        refine e_iconst (pc' := 63) (v := (-1)) (dAt D57 32 rfl) rfl (by decide) ?_
        exact e_ireturn (dAt D57 33 rfl) rfl ⟨rfl, fun e => by cases e⟩ h
-- PlaceNets.reached.(II)I, from 68
set_option maxRecDepth 20000 in
theorem bk57_68 {d b : Nat} {Q : Option Value → mMem → Prop} {m : mMem} {x0 : Nat} {x1 : Int32} {x2 : Int32} {x3 : Int32} {x4 : Option Value} {y0 : Nat} (hT : mWT m) (hOx0 : m.1 x0 = some (.inr 0) ∧ x0 ≠ 0) (hOy0 : m.1 y0 = some (.inr 5) ∧ y0 ≠ 0)
    (h : ((((iF m y0 2) = 0) → (((¬ x1 = ((-1))) → (mEv d 68 [.ref y0, .int x1, .int x2] m (fun r m' => mEs d 57 b g57 (101, [some (.ref x0), some (.int x1), some (.int x2), some (.int x3), some (.ref y0)], r.toList ++ [], m') Q))) ∧ (¬ (¬ x1 = ((-1))) → (mEs d 57 b g57 (101, [some (.ref x0), some (.int x1), some (.int x2), some (.int x3), some (.ref y0)], [.int (iF m y0 1)], m) Q)))) ∧ (¬ ((iF m y0 2) = 0) → (Q (some (.int ((-2)))) m)))) :
    mEs d 57 b g57 (68, [some (.ref x0), some (.int x1), some (.int x2), some (.int x3), x4], [.ref y0], m) Q := by
  refine e_astore (pc' := 70) (dAt D57 36 rfl) rfl (Nat.le_of_ble_eq_true rfl) rfl ?_
  refine e_aload (pc' := 72) (dAt D57 37 rfl) rfl rfl ?_
  refine e_getfield (pc' := 75) (dAt D57 38 rfl) rfl rfl hOy0 (hT.int hOy0 2 (by decide)) ?_
  refine e_if_eq (t := 81) (pc' := 78) (dAt D57 39 rfl) ⟨by decide, by decide⟩ rfl (fun c => ?_) (fun c => ?_)
  · replace h := h.1 c
    refine e_iload_n (pc' := 82) (dAt D57 42 rfl) rfl rfl ?_
    refine e_iconst (pc' := 83) (v := (-1)) (dAt D57 43 rfl) rfl (by decide) ?_
    refine e_icmp_ne (t := 94) (pc' := 86) (dAt D57 44 rfl) ⟨by decide, by decide⟩ rfl (fun c => ?_) (fun c => ?_)
    · replace h := h.1 c
      refine e_aload (pc' := 96) (dAt D57 48 rfl) rfl rfl ?_
      refine e_iload_n (pc' := 97) (dAt D57 49 rfl) rfl rfl ?_
      refine e_iload_n (pc' := 98) (dAt D57 50 rfl) rfl rfl ?_
      exact e_call2 h (dAt D57 51 rfl) (hi0 rfl) rfl G68 (by decide) rfl (Nat.le_of_ble_eq_true rfl) (kV hOy0 rfl rfl) rfl rfl
    · replace h := h.2 c
      refine e_aload (pc' := 88) (dAt D57 45 rfl) rfl rfl ?_
      refine e_getfield (pc' := 91) (dAt D57 46 rfl) rfl rfl hOy0 (hT.int hOy0 1 (by decide)) ?_
      refine e_goto (t := 101) (dAt D57 47 rfl) ⟨by decide, by decide⟩ ?_
      exact h
  · replace h := h.2 c
    refine e_bipush (pc' := 80) (v := (-2)) (dAt D57 40 rfl) rfl (by decide) ?_
    exact e_ireturn (dAt D57 41 rfl) rfl ⟨rfl, fun e => by cases e⟩ h
-- PlaceNets.reached.(II)I, from 101
set_option maxRecDepth 20000 in
theorem bk57_101 {d b : Nat} {Q : Option Value → mMem → Prop} {m : mMem} {x0 : Nat} {x1 : Int32} {x2 : Int32} {x3 : Int32} {x4 : Nat} {y0 : Int32} (hT : mWT m) (hOx0 : m.1 x0 = some (.inr 0) ∧ x0 ≠ 0) (hOx4 : m.1 x4 = some (.inr 5) ∧ x4 ≠ 0)
    (h : Q (some (.int y0)) m) :
    mEs d 57 b g57 (101, [some (.ref x0), some (.int x1), some (.int x2), some (.int x3), some (.ref x4)], [.int y0], m) Q := by
  exact e_ireturn (dAt D57 52 rfl) rfl ⟨rfl, fun e => by cases e⟩ h
-- PlaceNets.dead.(I)I, from 0
set_option maxRecDepth 20000 in
theorem bk69_0 {d b : Nat} {Q : Option Value → mMem → Prop} {m : mMem} {x0 : Nat} {x1 : Int32} {x2 : Option Value} (hT : mWT m) (hOx0 : m.1 x0 = some (.inr 0) ∧ x0 ≠ 0)
    (h : mEv d 21 [.ref x0] m (fun r m' => mEs d 69 b g69 (4, [some (.ref x0), some (.int x1), x2], r.toList ++ [], m') Q)) :
    mEs d 69 b g69 (0, [some (.ref x0), some (.int x1), x2], [], m) Q := by
  refine e_aload_n (pc' := 1) (dAt D69 0 rfl) rfl rfl ?_
  exact e_call2 h (dAt D69 1 rfl) (hi0 rfl) rfl G21 (by decide) rfl (Nat.le_of_ble_eq_true rfl) (kV hOx0 rfl rfl) rfl rfl
-- PlaceNets.dead.(I)I, from 4
set_option maxRecDepth 20000 in
theorem bk69_4 {d b : Nat} {Q : Option Value → mMem → Prop} {m : mMem} {x0 : Nat} {x1 : Int32} {x2 : Option Value} {y0 : Int32} (hT : mWT m) (hOx0 : m.1 x0 = some (.inr 0) ∧ x0 ≠ 0)
    (h : (((y0 = 0) → (Q (some (.int ((-1)))) m)) ∧ (¬ (y0 = 0) → (((x1 < 0) → (Q (some (.int ((-1)))) m)) ∧ (¬ (x1 < 0) → (((x1 ≤ 3) → (mEv d 58 [.ref x0] m (fun r m' => mEs d 69 b g69 (22, [some (.ref x0), some (.int x1), x2], r.toList ++ [], m') Q))) ∧ (¬ (x1 ≤ 3) → (Q (some (.int ((-1)))) m)))))))) :
    mEs d 69 b g69 (4, [some (.ref x0), some (.int x1), x2], [.int y0], m) Q := by
  refine e_if_eq (t := 16) (pc' := 7) (dAt D69 2 rfl) ⟨by decide, by decide⟩ rfl (fun c => ?_) (fun c => ?_)
  · replace h := h.1 c
    refine e_iconst (pc' := 17) (v := (-1)) (dAt D69 8 rfl) rfl (by decide) ?_
    exact e_ireturn (dAt D69 9 rfl) rfl ⟨rfl, fun e => by cases e⟩ h
  · replace h := h.2 c
    refine e_iload_n (pc' := 8) (dAt D69 3 rfl) rfl rfl ?_
    refine e_if_lt (t := 16) (pc' := 11) (dAt D69 4 rfl) ⟨by decide, by decide⟩ rfl (fun c => ?_) (fun c => ?_)
    · replace h := h.1 c
      refine e_iconst (pc' := 17) (v := (-1)) (dAt D69 8 rfl) rfl (by decide) ?_
      exact e_ireturn (dAt D69 9 rfl) rfl ⟨rfl, fun e => by cases e⟩ h
    · replace h := h.2 c
      refine e_iload_n (pc' := 12) (dAt D69 5 rfl) rfl rfl ?_
      refine e_iconst (pc' := 13) (v := 3) (dAt D69 6 rfl) rfl (by decide) ?_
      refine e_icmp_le (t := 18) (pc' := 16) (dAt D69 7 rfl) ⟨by decide, by decide⟩ rfl (fun c => ?_) (fun c => ?_)
      · replace h := h.1 c
        refine e_aload_n (pc' := 19) (dAt D69 10 rfl) rfl rfl ?_
        exact e_call2 h (dAt D69 11 rfl) (hi0 rfl) rfl G58 (by decide) rfl (Nat.le_of_ble_eq_true rfl) (kV hOx0 rfl rfl) rfl rfl
      · replace h := h.2 c
        refine e_iconst (pc' := 17) (v := (-1)) (dAt D69 8 rfl) rfl (by decide) ?_
        exact e_ireturn (dAt D69 9 rfl) rfl ⟨rfl, fun e => by cases e⟩ h
-- PlaceNets.dead.(I)I, from 22
set_option maxRecDepth 20000 in
theorem bk69_22 {d b : Nat} {Q : Option Value → mMem → Prop} {m : mMem} {x0 : Nat} {x1 : Int32} {x2 : Option Value} {y0 : Nat} (hT : mWT m) (hOx0 : m.1 x0 = some (.inr 0) ∧ x0 ≠ 0) (hOy0 : m.1 y0 = some (.inr 5) ∧ y0 ≠ 0)
    (h : ((((iF m y0 2) = 0) → ((x1 = 0 → (mEv d 70 [.ref y0] m (fun r m' => mEs d 69 b g69 (64, [some (.ref x0), some (.int x1), some (.ref y0)], r.toList ++ [], m') Q))) ∧ (¬ x1 = 0 → ((x1 = 1 → (mEv d 71 [.ref y0] m (fun r m' => mEs d 69 b g69 (69, [some (.ref x0), some (.int x1), some (.ref y0)], r.toList ++ [], m') Q))) ∧ (¬ x1 = 1 → ((x1 = 2 → (mEv d 72 [.ref y0, .int 10] m (fun r m' => mEs d 69 b g69 (76, [some (.ref x0), some (.int x1), some (.ref y0)], r.toList ++ [], m') Q))) ∧ (¬ x1 = 2 → (mEv d 72 [.ref y0, .int 11] m (fun r m' => mEs d 69 b g69 (83, [some (.ref x0), some (.int x1), some (.ref y0)], r.toList ++ [], m') Q))))))))) ∧ (¬ ((iF m y0 2) = 0) → (Q (some (.int ((-2)))) m)))) :
    mEs d 69 b g69 (22, [some (.ref x0), some (.int x1), x2], [.ref y0], m) Q := by
  refine e_astore_n (pc' := 23) (dAt D69 12 rfl) rfl (Nat.le_of_ble_eq_true rfl) rfl ?_
  refine e_aload_n (pc' := 24) (dAt D69 13 rfl) rfl rfl ?_
  refine e_getfield (pc' := 27) (dAt D69 14 rfl) rfl rfl hOy0 (hT.int hOy0 2 (by decide)) ?_
  refine e_if_eq (t := 33) (pc' := 30) (dAt D69 15 rfl) ⟨by decide, by decide⟩ rfl (fun c => ?_) (fun c => ?_)
  · replace h := h.1 c
    refine e_iload_n (pc' := 34) (dAt D69 18 rfl) rfl rfl ?_
    refine vc_if h (fun c0 h => ?_) (fun c0 h => ?_)
    · refine e_tableswitch (off := 26) (t := 60) (dAt D69 19 rfl) (by rw [c0]; rfl) ⟨by decide, by decide⟩ ?_
      refine e_aload_n (pc' := 61) (dAt D69 20 rfl) rfl rfl ?_
      exact e_call2 h (dAt D69 21 rfl) (hi0 rfl) rfl G70 (by decide) rfl (Nat.le_of_ble_eq_true rfl) (kV hOy0 rfl rfl) rfl rfl
    · skip
      refine vc_if h (fun c1 h => ?_) (fun c1 h => ?_)
      · refine e_tableswitch (off := 31) (t := 65) (dAt D69 19 rfl) (by rw [c1]; rfl) ⟨by decide, by decide⟩ ?_
        refine e_aload_n (pc' := 66) (dAt D69 23 rfl) rfl rfl ?_
        exact e_call2 h (dAt D69 24 rfl) (hi0 rfl) rfl G71 (by decide) rfl (Nat.le_of_ble_eq_true rfl) (kV hOy0 rfl rfl) rfl rfl
      · skip
        refine vc_if h (fun c2 h => ?_) (fun c2 h => ?_)
        · refine e_tableswitch (off := 36) (t := 70) (dAt D69 19 rfl) (by rw [c2]; rfl) ⟨by decide, by decide⟩ ?_
          refine e_aload_n (pc' := 71) (dAt D69 26 rfl) rfl rfl ?_
          refine e_bipush (pc' := 73) (v := 10) (dAt D69 27 rfl) rfl (by decide) ?_
          exact e_call2 h (dAt D69 28 rfl) (hi0 rfl) rfl G72 (by decide) rfl (Nat.le_of_ble_eq_true rfl) (kV hOy0 rfl rfl) rfl rfl
        · skip
          refine e_tableswitch (off := 43) (t := 77) (dAt D69 19 rfl) (if_pos (sw_out (fun k h1 h2 e => by
            have hk : k = 0 ∨ k = 1 ∨ k = 2 := by omega
            rcases hk with rfl | rfl | rfl
            · exact c0 (Int32.toInt_inj.mp (e.trans (by decide)))
            · exact c1 (Int32.toInt_inj.mp (e.trans (by decide)))
            · exact c2 (Int32.toInt_inj.mp (e.trans (by decide)))
            ))) ⟨by decide, by decide⟩ ?_
          refine e_aload_n (pc' := 78) (dAt D69 30 rfl) rfl rfl ?_
          refine e_bipush (pc' := 80) (v := 11) (dAt D69 31 rfl) rfl (by decide) ?_
          exact e_call2 h (dAt D69 32 rfl) (hi0 rfl) rfl G72 (by decide) rfl (Nat.le_of_ble_eq_true rfl) (kV hOy0 rfl rfl) rfl rfl
  · replace h := h.2 c
    refine e_bipush (pc' := 32) (v := (-2)) (dAt D69 16 rfl) rfl (by decide) ?_
    exact e_ireturn (dAt D69 17 rfl) rfl ⟨rfl, fun e => by cases e⟩ h
-- PlaceNets.dead.(I)I, from 64
set_option maxRecDepth 20000 in
theorem bk69_64 {d b : Nat} {Q : Option Value → mMem → Prop} {m : mMem} {x0 : Nat} {x1 : Int32} {x2 : Nat} {y0 : Int32} (hT : mWT m) (hOx0 : m.1 x0 = some (.inr 0) ∧ x0 ≠ 0) (hOx2 : m.1 x2 = some (.inr 5) ∧ x2 ≠ 0)
    (h : Q (some (.int y0)) m) :
    mEs d 69 b g69 (64, [some (.ref x0), some (.int x1), some (.ref x2)], [.int y0], m) Q := by
  exact e_ireturn (dAt D69 22 rfl) rfl ⟨rfl, fun e => by cases e⟩ h
-- PlaceNets.dead.(I)I, from 69
set_option maxRecDepth 20000 in
theorem bk69_69 {d b : Nat} {Q : Option Value → mMem → Prop} {m : mMem} {x0 : Nat} {x1 : Int32} {x2 : Nat} {y0 : Int32} (hT : mWT m) (hOx0 : m.1 x0 = some (.inr 0) ∧ x0 ≠ 0) (hOx2 : m.1 x2 = some (.inr 5) ∧ x2 ≠ 0)
    (h : Q (some (.int y0)) m) :
    mEs d 69 b g69 (69, [some (.ref x0), some (.int x1), some (.ref x2)], [.int y0], m) Q := by
  exact e_ireturn (dAt D69 25 rfl) rfl ⟨rfl, fun e => by cases e⟩ h
-- PlaceNets.dead.(I)I, from 76
set_option maxRecDepth 20000 in
theorem bk69_76 {d b : Nat} {Q : Option Value → mMem → Prop} {m : mMem} {x0 : Nat} {x1 : Int32} {x2 : Nat} {y0 : Int32} (hT : mWT m) (hOx0 : m.1 x0 = some (.inr 0) ∧ x0 ≠ 0) (hOx2 : m.1 x2 = some (.inr 5) ∧ x2 ≠ 0)
    (h : Q (some (.int y0)) m) :
    mEs d 69 b g69 (76, [some (.ref x0), some (.int x1), some (.ref x2)], [.int y0], m) Q := by
  exact e_ireturn (dAt D69 29 rfl) rfl ⟨rfl, fun e => by cases e⟩ h
-- PlaceNets.dead.(I)I, from 83
set_option maxRecDepth 20000 in
theorem bk69_83 {d b : Nat} {Q : Option Value → mMem → Prop} {m : mMem} {x0 : Nat} {x1 : Int32} {x2 : Nat} {y0 : Int32} (hT : mWT m) (hOx0 : m.1 x0 = some (.inr 0) ∧ x0 ≠ 0) (hOx2 : m.1 x2 = some (.inr 5) ∧ x2 ≠ 0)
    (h : Q (some (.int y0)) m) :
    mEs d 69 b g69 (83, [some (.ref x0), some (.int x1), some (.ref x2)], [.int y0], m) Q := by
  exact e_ireturn (dAt D69 33 rfl) rfl ⟨rfl, fun e => by cases e⟩ h
-- PlaceNets.alive.(I)I, from 0
set_option maxRecDepth 20000 in
theorem bk73_0 {d b : Nat} {Q : Option Value → mMem → Prop} {m : mMem} {x0 : Nat} {x1 : Int32} {x2 : Option Value} (hT : mWT m) (hOx0 : m.1 x0 = some (.inr 0) ∧ x0 ≠ 0)
    (h : ∃ (r_1 : Nat), (m.2.1 x0 1 = .ref r_1) ∧ ((m.1 r_1 = some (.inr 2) ∧ r_1 ≠ 0) ∧ (mEv d 25 [.ref r_1, .int x1] m (fun r m' => mEs d 73 b g73 (8, [some (.ref x0), some (.int x1), x2], r.toList ++ [], m') Q)))) :
    mEs d 73 b g73 (0, [some (.ref x0), some (.int x1), x2], [], m) Q := by
  refine e_aload_n (pc' := 1) (dAt D73 0 rfl) rfl rfl ?_
  obtain ⟨r_1, f1, f_2, h⟩ := h
  refine e_getfield (pc' := 4) (dAt D73 1 rfl) rfl rfl hOx0 f1 ?_
  refine e_iload_n (pc' := 5) (dAt D73 2 rfl) rfl rfl ?_
  exact e_call2 h (dAt D73 3 rfl) (hi0 rfl) rfl G25 (by decide) rfl (Nat.le_of_ble_eq_true rfl) (kV f_2 rfl rfl) rfl rfl
-- PlaceNets.alive.(I)I, from 8
set_option maxRecDepth 20000 in
theorem bk73_8 {d b : Nat} {Q : Option Value → mMem → Prop} {m : mMem} {x0 : Nat} {x1 : Int32} {x2 : Option Value} {y0 : Int32} (hT : mWT m) (hOx0 : m.1 x0 = some (.inr 0) ∧ x0 ≠ 0)
    (h : (((¬ y0 = 0) → (mEv d 58 [.ref x0] m (fun r m' => mEs d 73 b g73 (17, [some (.ref x0), some (.int x1), x2], r.toList ++ [], m') Q))) ∧ (¬ (¬ y0 = 0) → (Q (some (.int ((-1)))) m)))) :
    mEs d 73 b g73 (8, [some (.ref x0), some (.int x1), x2], [.int y0], m) Q := by
  refine e_if_ne (t := 13) (pc' := 11) (dAt D73 4 rfl) ⟨by decide, by decide⟩ rfl (fun c => ?_) (fun c => ?_)
  · replace h := h.1 c
    refine e_aload_n (pc' := 14) (dAt D73 7 rfl) rfl rfl ?_
    exact e_call2 h (dAt D73 8 rfl) (hi0 rfl) rfl G58 (by decide) rfl (Nat.le_of_ble_eq_true rfl) (kV hOx0 rfl rfl) rfl rfl
  · replace h := h.2 c
    refine e_iconst (pc' := 12) (v := (-1)) (dAt D73 5 rfl) rfl (by decide) ?_
    exact e_ireturn (dAt D73 6 rfl) rfl ⟨rfl, fun e => by cases e⟩ h
-- PlaceNets.alive.(I)I, from 17
set_option maxRecDepth 20000 in
theorem bk73_17 {d b : Nat} {Q : Option Value → mMem → Prop} {m : mMem} {x0 : Nat} {x1 : Int32} {x2 : Option Value} {y0 : Nat} (hT : mWT m) (hOx0 : m.1 x0 = some (.inr 0) ∧ x0 ≠ 0) (hOy0 : m.1 y0 = some (.inr 5) ∧ y0 ≠ 0)
    (h : ((((iF m y0 2) = 0) → (mEv d 74 [.ref y0, .int x1] m (fun r m' => mEs d 73 b g73 (35, [some (.ref x0), some (.int x1), some (.ref y0)], r.toList ++ [], m') Q))) ∧ (¬ ((iF m y0 2) = 0) → (mEs d 73 b g73 (35, [some (.ref x0), some (.int x1), some (.ref y0)], [.int ((-2))], m) Q)))) :
    mEs d 73 b g73 (17, [some (.ref x0), some (.int x1), x2], [.ref y0], m) Q := by
  refine e_astore_n (pc' := 18) (dAt D73 9 rfl) rfl (Nat.le_of_ble_eq_true rfl) rfl ?_
  refine e_aload_n (pc' := 19) (dAt D73 10 rfl) rfl rfl ?_
  refine e_getfield (pc' := 22) (dAt D73 11 rfl) rfl rfl hOy0 (hT.int hOy0 2 (by decide)) ?_
  refine e_if_eq (t := 30) (pc' := 25) (dAt D73 12 rfl) ⟨by decide, by decide⟩ rfl (fun c => ?_) (fun c => ?_)
  · replace h := h.1 c
    refine e_aload_n (pc' := 31) (dAt D73 15 rfl) rfl rfl ?_
    refine e_iload_n (pc' := 32) (dAt D73 16 rfl) rfl rfl ?_
    exact e_call2 h (dAt D73 17 rfl) (hi0 rfl) rfl G74 (by decide) rfl (Nat.le_of_ble_eq_true rfl) (kV hOy0 rfl rfl) rfl rfl
  · replace h := h.2 c
    refine e_bipush (pc' := 27) (v := (-2)) (dAt D73 13 rfl) rfl (by decide) ?_
    refine e_goto (t := 35) (dAt D73 14 rfl) ⟨by decide, by decide⟩ ?_
    exact h
-- PlaceNets.alive.(I)I, from 35
set_option maxRecDepth 20000 in
theorem bk73_35 {d b : Nat} {Q : Option Value → mMem → Prop} {m : mMem} {x0 : Nat} {x1 : Int32} {x2 : Nat} {y0 : Int32} (hT : mWT m) (hOx0 : m.1 x0 = some (.inr 0) ∧ x0 ≠ 0) (hOx2 : m.1 x2 = some (.inr 5) ∧ x2 ≠ 0)
    (h : Q (some (.int y0)) m) :
    mEs d 73 b g73 (35, [some (.ref x0), some (.int x1), some (.ref x2)], [.int y0], m) Q := by
  exact e_ireturn (dAt D73 18 rfl) rfl ⟨rfl, fun e => by cases e⟩ h
-- PlaceNets.way.(I)I, from 0
set_option maxRecDepth 20000 in
theorem bk75_0 {d b : Nat} {Q : Option Value → mMem → Prop} {m : mMem} {x0 : Nat} {x1 : Int32} {x2 : Option Value} {x3 : Option Value} (hT : mWT m) (hOx0 : m.1 x0 = some (.inr 0) ∧ x0 ≠ 0)
    (h : mEv d 21 [.ref x0] m (fun r m' => mEs d 75 b g75 (4, [some (.ref x0), some (.int x1), x2, x3], r.toList ++ [], m') Q)) :
    mEs d 75 b g75 (0, [some (.ref x0), some (.int x1), x2, x3], [], m) Q := by
  refine e_aload_n (pc' := 1) (dAt D75 0 rfl) rfl rfl ?_
  exact e_call2 h (dAt D75 1 rfl) (hi0 rfl) rfl G21 (by decide) rfl (Nat.le_of_ble_eq_true rfl) (kV hOx0 rfl rfl) rfl rfl
-- PlaceNets.way.(I)I, from 4
set_option maxRecDepth 20000 in
theorem bk75_4 {d b : Nat} {Q : Option Value → mMem → Prop} {m : mMem} {x0 : Nat} {x1 : Int32} {x2 : Option Value} {x3 : Option Value} {y0 : Int32} (hT : mWT m) (hOx0 : m.1 x0 = some (.inr 0) ∧ x0 ≠ 0)
    (h : (((y0 = 0) → (Q (some (.int ((-1)))) m)) ∧ (¬ (y0 = 0) → (((((-1)) ≤ x1) → (mEv d 58 [.ref x0] m (fun r m' => mEs d 75 b g75 (18, [some (.ref x0), some (.int x1), x2, x3], r.toList ++ [], m') Q))) ∧ (¬ (((-1)) ≤ x1) → (Q (some (.int ((-1)))) m)))))) :
    mEs d 75 b g75 (4, [some (.ref x0), some (.int x1), x2, x3], [.int y0], m) Q := by
  refine e_if_eq (t := 12) (pc' := 7) (dAt D75 2 rfl) ⟨by decide, by decide⟩ rfl (fun c => ?_) (fun c => ?_)
  · replace h := h.1 c
    refine e_iconst (pc' := 13) (v := (-1)) (dAt D75 6 rfl) rfl (by decide) ?_
    exact e_ireturn (dAt D75 7 rfl) rfl ⟨rfl, fun e => by cases e⟩ h
  · replace h := h.2 c
    refine e_iload_n (pc' := 8) (dAt D75 3 rfl) rfl rfl ?_
    refine e_iconst (pc' := 9) (v := (-1)) (dAt D75 4 rfl) rfl (by decide) ?_
    refine e_icmp_ge (t := 14) (pc' := 12) (dAt D75 5 rfl) ⟨by decide, by decide⟩ rfl (fun c => ?_) (fun c => ?_)
    · replace h := h.1 c
      refine e_aload_n (pc' := 15) (dAt D75 8 rfl) rfl rfl ?_
      exact e_call2 h (dAt D75 9 rfl) (hi0 rfl) rfl G58 (by decide) rfl (Nat.le_of_ble_eq_true rfl) (kV hOx0 rfl rfl) rfl rfl
    · replace h := h.2 c
      refine e_iconst (pc' := 13) (v := (-1)) (dAt D75 6 rfl) rfl (by decide) ?_
      exact e_ireturn (dAt D75 7 rfl) rfl ⟨rfl, fun e => by cases e⟩ h
-- PlaceNets.way.(I)I, from 18
set_option maxRecDepth 20000 in
theorem bk75_18 {d b : Nat} {Q : Option Value → mMem → Prop} {m : mMem} {x0 : Nat} {x1 : Int32} {x2 : Option Value} {x3 : Option Value} {y0 : Nat} (hT : mWT m) (hOx0 : m.1 x0 = some (.inr 0) ∧ x0 ≠ 0) (hOy0 : m.1 y0 = some (.inr 5) ∧ y0 ≠ 0)
    (h : ((((iF m y0 2) = 0) → (mEv d 65 [.ref y0, .ref (64 * x0 + 5)] m (fun r m' => mEs d 75 b g75 (37, [some (.ref x0), some (.int x1), some (.ref y0), x3], r.toList ++ [], m') Q))) ∧ (¬ ((iF m y0 2) = 0) → (Q (some (.int ((-2)))) m)))) :
    mEs d 75 b g75 (18, [some (.ref x0), some (.int x1), x2, x3], [.ref y0], m) Q := by
  refine e_astore_n (pc' := 19) (dAt D75 10 rfl) rfl (Nat.le_of_ble_eq_true rfl) rfl ?_
  refine e_aload_n (pc' := 20) (dAt D75 11 rfl) rfl rfl ?_
  refine e_getfield (pc' := 23) (dAt D75 12 rfl) rfl rfl hOy0 (hT.int hOy0 2 (by decide)) ?_
  refine e_if_eq (t := 29) (pc' := 26) (dAt D75 13 rfl) ⟨by decide, by decide⟩ rfl (fun c => ?_) (fun c => ?_)
  · replace h := h.1 c
    refine e_aload_n (pc' := 30) (dAt D75 16 rfl) rfl rfl ?_
    refine e_aload_n (pc' := 31) (dAt D75 17 rfl) rfl rfl ?_
    refine e_getfield (pc' := 34) (dAt D75 18 rfl) rfl rfl hOx0 (hT.own hOx0 1 rfl) ?_
    exact e_call2 h (dAt D75 19 rfl) (hi0 rfl) rfl G65 (by decide) rfl (Nat.le_of_ble_eq_true rfl) (kV hOy0 rfl rfl) rfl rfl
  · replace h := h.2 c
    refine e_bipush (pc' := 28) (v := (-2)) (dAt D75 14 rfl) rfl (by decide) ?_
    exact e_ireturn (dAt D75 15 rfl) rfl ⟨rfl, fun e => by cases e⟩ h
-- PlaceNets.way.(I)I, from 37
set_option maxRecDepth 20000 in
theorem bk75_37 {d b : Nat} {Q : Option Value → mMem → Prop} {m : mMem} {x0 : Nat} {x1 : Int32} {x2 : Nat} {x3 : Option Value} {y0 : Int32} (hT : mWT m) (hOx0 : m.1 x0 = some (.inr 0) ∧ x0 ≠ 0) (hOx2 : m.1 x2 = some (.inr 5) ∧ x2 ≠ 0)
    (h : (((¬ y0 = ((-1))) → (((¬ x1 = ((-1))) → (mEv d 76 [.ref x2, .int y0, .int x1] m (fun r m' => mEs d 75 b g75 (66, [some (.ref x0), some (.int x1), some (.ref x2), some (.int y0)], r.toList ++ [], m') Q))) ∧ (¬ (¬ x1 = ((-1))) → ((mIn y0 300 = true) ∧ (mEs d 75 b g75 (66, [some (.ref x0), some (.int x1), some (.ref x2), some (.int y0)], [.int (m.2.2.1 (64 * x2 + 1) y0.toNatClampNeg)], m) Q))))) ∧ (¬ (¬ y0 = ((-1))) → (Q (some (.int ((-3)))) m)))) :
    mEs d 75 b g75 (37, [some (.ref x0), some (.int x1), some (.ref x2), x3], [.int y0], m) Q := by
  refine e_istore_n (pc' := 38) (dAt D75 20 rfl) rfl (Nat.le_of_ble_eq_true rfl) rfl ?_
  refine e_iload_n (pc' := 39) (dAt D75 21 rfl) rfl rfl ?_
  refine e_iconst (pc' := 40) (v := (-1)) (dAt D75 22 rfl) rfl (by decide) ?_
  refine e_icmp_ne (t := 46) (pc' := 43) (dAt D75 23 rfl) ⟨by decide, by decide⟩ rfl (fun c => ?_) (fun c => ?_)
  · replace h := h.1 c
    refine e_iload_n (pc' := 47) (dAt D75 26 rfl) rfl rfl ?_
    refine e_iconst (pc' := 48) (v := (-1)) (dAt D75 27 rfl) rfl (by decide) ?_
    refine e_icmp_ne (t := 60) (pc' := 51) (dAt D75 28 rfl) ⟨by decide, by decide⟩ rfl (fun c => ?_) (fun c => ?_)
    · replace h := h.1 c
      refine e_aload_n (pc' := 61) (dAt D75 34 rfl) rfl rfl ?_
      refine e_iload_n (pc' := 62) (dAt D75 35 rfl) rfl rfl ?_
      refine e_iload_n (pc' := 63) (dAt D75 36 rfl) rfl rfl ?_
      exact e_call2 h (dAt D75 37 rfl) (hi0 rfl) rfl G76 (by decide) rfl (Nat.le_of_ble_eq_true rfl) (kV hOx2 rfl rfl) rfl rfl
    · replace h := h.2 c
      refine e_aload_n (pc' := 52) (dAt D75 29 rfl) rfl rfl ?_
      refine e_getfield (pc' := 55) (dAt D75 30 rfl) rfl rfl hOx2 (hT.own hOx2 0 rfl) ?_
      refine e_iload_n (pc' := 56) (dAt D75 31 rfl) rfl rfl ?_
      obtain ⟨f1, h⟩ := h
      refine e_iaload (pc' := 57) (dAt D75 32 rfl) rfl (hT.arr hOx2 0 rfl (by decide)).1 (Or.inl (hT.arr hOx2 0 rfl (by decide)).2) f1 rfl ?_
      refine e_goto (t := 66) (dAt D75 33 rfl) ⟨by decide, by decide⟩ ?_
      exact h
  · replace h := h.2 c
    refine e_bipush (pc' := 45) (v := (-3)) (dAt D75 24 rfl) rfl (by decide) ?_
    exact e_ireturn (dAt D75 25 rfl) rfl ⟨rfl, fun e => by cases e⟩ h
-- PlaceNets.way.(I)I, from 66
set_option maxRecDepth 20000 in
theorem bk75_66 {d b : Nat} {Q : Option Value → mMem → Prop} {m : mMem} {x0 : Nat} {x1 : Int32} {x2 : Nat} {x3 : Int32} {y0 : Int32} (hT : mWT m) (hOx0 : m.1 x0 = some (.inr 0) ∧ x0 ≠ 0) (hOx2 : m.1 x2 = some (.inr 5) ∧ x2 ≠ 0)
    (h : Q (some (.int y0)) m) :
    mEs d 75 b g75 (66, [some (.ref x0), some (.int x1), some (.ref x2), some (.int x3)], [.int y0], m) Q := by
  exact e_ireturn (dAt D75 38 rfl) rfl ⟨rfl, fun e => by cases e⟩ h
-- PlaceNets.flow.(III)I, from 0
set_option maxRecDepth 20000 in
theorem bk77_0 {d b : Nat} {Q : Option Value → mMem → Prop} {m : mMem} {x0 : Nat} {x1 : Int32} {x2 : Int32} {x3 : Int32} {x4 : Option Value} {x5 : Option Value} (hT : mWT m) (hOx0 : m.1 x0 = some (.inr 0) ∧ x0 ≠ 0)
    (h : (((x2 = ((-1))) → (mEv d 21 [.ref x0] m (fun r m' => mEs d 77 b g77 (45, [some (.ref x0), some (.int x1), some (.int x2), some (.int x3), some (.int 1), x5], r.toList ++ [], m') Q))) ∧ (¬ (x2 = ((-1))) → (((¬ x1 = 0) → (∃ (r_1 : Nat), (m.2.1 x0 1 = .ref r_1) ∧ ((m.1 r_1 = some (.inr 2) ∧ r_1 ≠ 0) ∧ (mEv d 25 [.ref r_1, .int x3] m (fun r m' => mEs d 77 b g77 (31, [some (.ref x0), some (.int x1), some (.int x2), some (.int x3), x4, x5], r.toList ++ [], m') Q))))) ∧ (¬ (¬ x1 = 0) → (∃ (r_3 : Nat), (m.2.1 x0 1 = .ref r_3) ∧ ((m.1 r_3 = some (.inr 2) ∧ r_3 ≠ 0) ∧ (mEv d 19 [.ref r_3, .int x3] m (fun r m' => mEs d 77 b g77 (17, [some (.ref x0), some (.int x1), some (.int x2), some (.int x3), x4, x5], r.toList ++ [], m') Q))))))))) :
    mEs d 77 b g77 (0, [some (.ref x0), some (.int x1), some (.int x2), some (.int x3), x4, x5], [], m) Q := by
  refine e_iload_n (pc' := 1) (dAt D77 0 rfl) rfl rfl ?_
  refine e_iconst (pc' := 2) (v := (-1)) (dAt D77 1 rfl) rfl (by decide) ?_
  refine e_icmp_eq (t := 34) (pc' := 5) (dAt D77 2 rfl) ⟨by decide, by decide⟩ rfl (fun c => ?_) (fun c => ?_)
  · replace h := h.1 c
    refine e_iconst (pc' := 35) (v := 1) (dAt D77 16 rfl) rfl (by decide) ?_
    refine e_goto (t := 39) (dAt D77 17 rfl) ⟨by decide, by decide⟩ ?_
    refine e_istore (pc' := 41) (dAt D77 19 rfl) rfl (Nat.le_of_ble_eq_true rfl) rfl ?_
    refine e_aload_n (pc' := 42) (dAt D77 20 rfl) rfl rfl ?_
    exact e_call2 h (dAt D77 21 rfl) (hi0 rfl) rfl G21 (by decide) rfl (Nat.le_of_ble_eq_true rfl) (kV hOx0 rfl rfl) rfl rfl
  · replace h := h.2 c
    refine e_iload_n (pc' := 6) (dAt D77 3 rfl) rfl rfl ?_
    refine e_if_ne (t := 23) (pc' := 9) (dAt D77 4 rfl) ⟨by decide, by decide⟩ rfl (fun c => ?_) (fun c => ?_)
    · replace h := h.1 c
      refine e_aload_n (pc' := 24) (dAt D77 11 rfl) rfl rfl ?_
      obtain ⟨r_1, f1, f_2, h⟩ := h
      refine e_getfield (pc' := 27) (dAt D77 12 rfl) rfl rfl hOx0 f1 ?_
      refine e_iload_n (pc' := 28) (dAt D77 13 rfl) rfl rfl ?_
      exact e_call2 h (dAt D77 14 rfl) (hi0 rfl) rfl G25 (by decide) rfl (Nat.le_of_ble_eq_true rfl) (kV f_2 rfl rfl) rfl rfl
    · replace h := h.2 c
      refine e_aload_n (pc' := 10) (dAt D77 5 rfl) rfl rfl ?_
      obtain ⟨r_3, f1, f_4, h⟩ := h
      refine e_getfield (pc' := 13) (dAt D77 6 rfl) rfl rfl hOx0 f1 ?_
      refine e_iload_n (pc' := 14) (dAt D77 7 rfl) rfl rfl ?_
      exact e_call2 h (dAt D77 8 rfl) (hi0 rfl) rfl G19 (by decide) rfl (Nat.le_of_ble_eq_true rfl) (kV f_4 rfl rfl) rfl rfl
-- PlaceNets.flow.(III)I, from 17
set_option maxRecDepth 20000 in
theorem bk77_17 {d b : Nat} {Q : Option Value → mMem → Prop} {m : mMem} {x0 : Nat} {x1 : Int32} {x2 : Int32} {x3 : Int32} {x4 : Option Value} {x5 : Option Value} {y0 : Int32} (hT : mWT m) (hOx0 : m.1 x0 = some (.inr 0) ∧ x0 ≠ 0)
    (h : (((y0 = 0) → (mEv d 21 [.ref x0] m (fun r m' => mEs d 77 b g77 (45, [some (.ref x0), some (.int x1), some (.int x2), some (.int x3), some (.int 0), x5], r.toList ++ [], m') Q))) ∧ (¬ (y0 = 0) → (mEv d 21 [.ref x0] m (fun r m' => mEs d 77 b g77 (45, [some (.ref x0), some (.int x1), some (.int x2), some (.int x3), some (.int 1), x5], r.toList ++ [], m') Q))))) :
    mEs d 77 b g77 (17, [some (.ref x0), some (.int x1), some (.int x2), some (.int x3), x4, x5], [.int y0], m) Q := by
  refine e_if_eq (t := 38) (pc' := 20) (dAt D77 9 rfl) ⟨by decide, by decide⟩ rfl (fun c => ?_) (fun c => ?_)
  · replace h := h.1 c
    refine e_iconst (pc' := 39) (v := 0) (dAt D77 18 rfl) rfl (by decide) ?_
    refine e_istore (pc' := 41) (dAt D77 19 rfl) rfl (Nat.le_of_ble_eq_true rfl) rfl ?_
    refine e_aload_n (pc' := 42) (dAt D77 20 rfl) rfl rfl ?_
    exact e_call2 h (dAt D77 21 rfl) (hi0 rfl) rfl G21 (by decide) rfl (Nat.le_of_ble_eq_true rfl) (kV hOx0 rfl rfl) rfl rfl
  · replace h := h.2 c
    refine e_goto (t := 34) (dAt D77 10 rfl) ⟨by decide, by decide⟩ ?_
    refine e_iconst (pc' := 35) (v := 1) (dAt D77 16 rfl) rfl (by decide) ?_
    refine e_goto (t := 39) (dAt D77 17 rfl) ⟨by decide, by decide⟩ ?_
    refine e_istore (pc' := 41) (dAt D77 19 rfl) rfl (Nat.le_of_ble_eq_true rfl) rfl ?_
    refine e_aload_n (pc' := 42) (dAt D77 20 rfl) rfl rfl ?_
    exact e_call2 h (dAt D77 21 rfl) (hi0 rfl) rfl G21 (by decide) rfl (Nat.le_of_ble_eq_true rfl) (kV hOx0 rfl rfl) rfl rfl
-- PlaceNets.flow.(III)I, from 31
set_option maxRecDepth 20000 in
theorem bk77_31 {d b : Nat} {Q : Option Value → mMem → Prop} {m : mMem} {x0 : Nat} {x1 : Int32} {x2 : Int32} {x3 : Int32} {x4 : Option Value} {x5 : Option Value} {y0 : Int32} (hT : mWT m) (hOx0 : m.1 x0 = some (.inr 0) ∧ x0 ≠ 0)
    (h : (((y0 = 0) → (mEv d 21 [.ref x0] m (fun r m' => mEs d 77 b g77 (45, [some (.ref x0), some (.int x1), some (.int x2), some (.int x3), some (.int 0), x5], r.toList ++ [], m') Q))) ∧ (¬ (y0 = 0) → (mEv d 21 [.ref x0] m (fun r m' => mEs d 77 b g77 (45, [some (.ref x0), some (.int x1), some (.int x2), some (.int x3), some (.int 1), x5], r.toList ++ [], m') Q))))) :
    mEs d 77 b g77 (31, [some (.ref x0), some (.int x1), some (.int x2), some (.int x3), x4, x5], [.int y0], m) Q := by
  refine e_if_eq (t := 38) (pc' := 34) (dAt D77 15 rfl) ⟨by decide, by decide⟩ rfl (fun c => ?_) (fun c => ?_)
  · replace h := h.1 c
    refine e_iconst (pc' := 39) (v := 0) (dAt D77 18 rfl) rfl (by decide) ?_
    refine e_istore (pc' := 41) (dAt D77 19 rfl) rfl (Nat.le_of_ble_eq_true rfl) rfl ?_
    refine e_aload_n (pc' := 42) (dAt D77 20 rfl) rfl rfl ?_
    exact e_call2 h (dAt D77 21 rfl) (hi0 rfl) rfl G21 (by decide) rfl (Nat.le_of_ble_eq_true rfl) (kV hOx0 rfl rfl) rfl rfl
  · replace h := h.2 c
    refine e_iconst (pc' := 35) (v := 1) (dAt D77 16 rfl) rfl (by decide) ?_
    refine e_goto (t := 39) (dAt D77 17 rfl) ⟨by decide, by decide⟩ ?_
    refine e_istore (pc' := 41) (dAt D77 19 rfl) rfl (Nat.le_of_ble_eq_true rfl) rfl ?_
    refine e_aload_n (pc' := 42) (dAt D77 20 rfl) rfl rfl ?_
    exact e_call2 h (dAt D77 21 rfl) (hi0 rfl) rfl G21 (by decide) rfl (Nat.le_of_ble_eq_true rfl) (kV hOx0 rfl rfl) rfl rfl
-- PlaceNets.flow.(III)I, from 45
set_option maxRecDepth 20000 in
theorem bk77_45 {d b : Nat} {Q : Option Value → mMem → Prop} {m : mMem} {x0 : Nat} {x1 : Int32} {x2 : Int32} {x3 : Int32} {x4 : Int32} {x5 : Option Value} {y0 : Int32} (hT : mWT m) (hOx0 : m.1 x0 = some (.inr 0) ∧ x0 ≠ 0)
    (h : (((y0 = 0) → (Q (some (.int ((-1)))) m)) ∧ (¬ (y0 = 0) → (((x1 < 0) → (Q (some (.int ((-1)))) m)) ∧ (¬ (x1 < 0) → (((1 < x1) → (Q (some (.int ((-1)))) m)) ∧ (¬ (1 < x1) → (((x2 < ((-1))) → (Q (some (.int ((-1)))) m)) ∧ (¬ (x2 < ((-1))) → (((¬ x4 = 0) → (mEv d 78 [.ref x0, .int x1] m (fun r m' => mEs d 77 b g77 (74, [some (.ref x0), some (.int x1), some (.int x2), some (.int x3), some (.int x4), x5], r.toList ++ [], m') Q))) ∧ (¬ (¬ x4 = 0) → (Q (some (.int ((-1)))) m)))))))))))) :
    mEs d 77 b g77 (45, [some (.ref x0), some (.int x1), some (.int x2), some (.int x3), some (.int x4), x5], [.int y0], m) Q := by
  refine e_if_eq (t := 67) (pc' := 48) (dAt D77 22 rfl) ⟨by decide, by decide⟩ rfl (fun c => ?_) (fun c => ?_)
  · replace h := h.1 c
    refine e_iconst (pc' := 68) (v := (-1)) (dAt D77 33 rfl) rfl (by decide) ?_
    exact e_ireturn (dAt D77 34 rfl) rfl ⟨rfl, fun e => by cases e⟩ h
  · replace h := h.2 c
    refine e_iload_n (pc' := 49) (dAt D77 23 rfl) rfl rfl ?_
    refine e_if_lt (t := 67) (pc' := 52) (dAt D77 24 rfl) ⟨by decide, by decide⟩ rfl (fun c => ?_) (fun c => ?_)
    · replace h := h.1 c
      refine e_iconst (pc' := 68) (v := (-1)) (dAt D77 33 rfl) rfl (by decide) ?_
      exact e_ireturn (dAt D77 34 rfl) rfl ⟨rfl, fun e => by cases e⟩ h
    · replace h := h.2 c
      refine e_iload_n (pc' := 53) (dAt D77 25 rfl) rfl rfl ?_
      refine e_iconst (pc' := 54) (v := 1) (dAt D77 26 rfl) rfl (by decide) ?_
      refine e_icmp_gt (t := 67) (pc' := 57) (dAt D77 27 rfl) ⟨by decide, by decide⟩ rfl (fun c => ?_) (fun c => ?_)
      · replace h := h.1 c
        refine e_iconst (pc' := 68) (v := (-1)) (dAt D77 33 rfl) rfl (by decide) ?_
        exact e_ireturn (dAt D77 34 rfl) rfl ⟨rfl, fun e => by cases e⟩ h
      · replace h := h.2 c
        refine e_iload_n (pc' := 58) (dAt D77 28 rfl) rfl rfl ?_
        refine e_iconst (pc' := 59) (v := (-1)) (dAt D77 29 rfl) rfl (by decide) ?_
        refine e_icmp_lt (t := 67) (pc' := 62) (dAt D77 30 rfl) ⟨by decide, by decide⟩ rfl (fun c => ?_) (fun c => ?_)
        · replace h := h.1 c
          refine e_iconst (pc' := 68) (v := (-1)) (dAt D77 33 rfl) rfl (by decide) ?_
          exact e_ireturn (dAt D77 34 rfl) rfl ⟨rfl, fun e => by cases e⟩ h
        · replace h := h.2 c
          refine e_iload (pc' := 64) (dAt D77 31 rfl) rfl rfl ?_
          refine e_if_ne (t := 69) (pc' := 67) (dAt D77 32 rfl) ⟨by decide, by decide⟩ rfl (fun c => ?_) (fun c => ?_)
          · replace h := h.1 c
            refine e_aload_n (pc' := 70) (dAt D77 35 rfl) rfl rfl ?_
            refine e_iload_n (pc' := 71) (dAt D77 36 rfl) rfl rfl ?_
            exact e_call2 h (dAt D77 37 rfl) (hi0 rfl) rfl G78 (by decide) rfl (Nat.le_of_ble_eq_true rfl) (kV hOx0 rfl rfl) rfl rfl
          · replace h := h.2 c
            refine e_iconst (pc' := 68) (v := (-1)) (dAt D77 33 rfl) rfl (by decide) ?_
            exact e_ireturn (dAt D77 34 rfl) rfl ⟨rfl, fun e => by cases e⟩ h
-- PlaceNets.flow.(III)I, from 74
set_option maxRecDepth 20000 in
theorem bk77_74 {d b : Nat} {Q : Option Value → mMem → Prop} {m : mMem} {x0 : Nat} {x1 : Int32} {x2 : Int32} {x3 : Int32} {x4 : Int32} {x5 : Option Value} {y0 : Nat} (hT : mWT m) (hOx0 : m.1 x0 = some (.inr 0) ∧ x0 ≠ 0) (hOy0 : m.1 y0 = some (.inr 4) ∧ y0 ≠ 0)
    (h : ((((iF m y0 2) = 0) → (((¬ x2 = ((-1))) → (mEv d 93 [.ref y0, .int x2, .int x3] m (fun r m' => mEs d 77 b g77 (107, [some (.ref x0), some (.int x1), some (.int x2), some (.int x3), some (.int x4), some (.ref y0)], r.toList ++ [], m') Q))) ∧ (¬ (¬ x2 = ((-1))) → (mEs d 77 b g77 (107, [some (.ref x0), some (.int x1), some (.int x2), some (.int x3), some (.int x4), some (.ref y0)], [.int (iF m y0 1)], m) Q)))) ∧ (¬ ((iF m y0 2) = 0) → (Q (some (.int ((-2)))) m)))) :
    mEs d 77 b g77 (74, [some (.ref x0), some (.int x1), some (.int x2), some (.int x3), some (.int x4), x5], [.ref y0], m) Q := by
  refine e_astore (pc' := 76) (dAt D77 38 rfl) rfl (Nat.le_of_ble_eq_true rfl) rfl ?_
  refine e_aload (pc' := 78) (dAt D77 39 rfl) rfl rfl ?_
  refine e_getfield (pc' := 81) (dAt D77 40 rfl) rfl rfl hOy0 (hT.int hOy0 2 (by decide)) ?_
  refine e_if_eq (t := 87) (pc' := 84) (dAt D77 41 rfl) ⟨by decide, by decide⟩ rfl (fun c => ?_) (fun c => ?_)
  · replace h := h.1 c
    refine e_iload_n (pc' := 88) (dAt D77 44 rfl) rfl rfl ?_
    refine e_iconst (pc' := 89) (v := (-1)) (dAt D77 45 rfl) rfl (by decide) ?_
    refine e_icmp_ne (t := 100) (pc' := 92) (dAt D77 46 rfl) ⟨by decide, by decide⟩ rfl (fun c => ?_) (fun c => ?_)
    · replace h := h.1 c
      refine e_aload (pc' := 102) (dAt D77 50 rfl) rfl rfl ?_
      refine e_iload_n (pc' := 103) (dAt D77 51 rfl) rfl rfl ?_
      refine e_iload_n (pc' := 104) (dAt D77 52 rfl) rfl rfl ?_
      exact e_call2 h (dAt D77 53 rfl) (hi0 rfl) rfl G93 (by decide) rfl (Nat.le_of_ble_eq_true rfl) (kV hOy0 rfl rfl) rfl rfl
    · replace h := h.2 c
      refine e_aload (pc' := 94) (dAt D77 47 rfl) rfl rfl ?_
      refine e_getfield (pc' := 97) (dAt D77 48 rfl) rfl rfl hOy0 (hT.int hOy0 1 (by decide)) ?_
      refine e_goto (t := 107) (dAt D77 49 rfl) ⟨by decide, by decide⟩ ?_
      exact h
  · replace h := h.2 c
    refine e_bipush (pc' := 86) (v := (-2)) (dAt D77 42 rfl) rfl (by decide) ?_
    exact e_ireturn (dAt D77 43 rfl) rfl ⟨rfl, fun e => by cases e⟩ h
-- PlaceNets.flow.(III)I, from 107
set_option maxRecDepth 20000 in
theorem bk77_107 {d b : Nat} {Q : Option Value → mMem → Prop} {m : mMem} {x0 : Nat} {x1 : Int32} {x2 : Int32} {x3 : Int32} {x4 : Int32} {x5 : Nat} {y0 : Int32} (hT : mWT m) (hOx0 : m.1 x0 = some (.inr 0) ∧ x0 ≠ 0) (hOx5 : m.1 x5 = some (.inr 4) ∧ x5 ≠ 0)
    (h : Q (some (.int y0)) m) :
    mEs d 77 b g77 (107, [some (.ref x0), some (.int x1), some (.int x2), some (.int x3), some (.int x4), some (.ref x5)], [.int y0], m) Q := by
  exact e_ireturn (dAt D77 54 rfl) rfl ⟨rfl, fun e => by cases e⟩ h
-- PlaceNets.flowsNow.(I)LPlaceNets$Flows;, from 0
set_option maxRecDepth 20000 in
theorem bk78_0 {d b : Nat} {Q : Option Value → mMem → Prop} {m : mMem} {x0 : Nat} {x1 : Int32} (hT : mWT m) (hOx0 : m.1 x0 = some (.inr 0) ∧ x0 ≠ 0)
    (h : (((¬ x1 = 0) → (mEv d 92 [.ref x0] m (fun r m' => mEs d 78 b g78 (15, [some (.ref x0), some (.int x1)], r.toList ++ [], m') Q))) ∧ (¬ (¬ x1 = 0) → (mEv d 79 [.ref x0] m (fun r m' => mEs d 78 b g78 (8, [some (.ref x0), some (.int x1)], r.toList ++ [], m') Q))))) :
    mEs d 78 b g78 (0, [some (.ref x0), some (.int x1)], [], m) Q := by
  refine e_iload_n (pc' := 1) (dAt D78 0 rfl) rfl rfl ?_
  refine e_if_ne (t := 11) (pc' := 4) (dAt D78 1 rfl) ⟨by decide, by decide⟩ rfl (fun c => ?_) (fun c => ?_)
  · replace h := h.1 c
    refine e_aload_n (pc' := 12) (dAt D78 5 rfl) rfl rfl ?_
    exact e_call2 h (dAt D78 6 rfl) (hi0 rfl) rfl G92 (by decide) rfl (Nat.le_of_ble_eq_true rfl) (kV hOx0 rfl rfl) rfl rfl
  · replace h := h.2 c
    refine e_aload_n (pc' := 5) (dAt D78 2 rfl) rfl rfl ?_
    exact e_call2 h (dAt D78 3 rfl) (hi0 rfl) rfl G79 (by decide) rfl (Nat.le_of_ble_eq_true rfl) (kV hOx0 rfl rfl) rfl rfl
-- PlaceNets.flowsNow.(I)LPlaceNets$Flows;, from 8
set_option maxRecDepth 20000 in
theorem bk78_8 {d b : Nat} {Q : Option Value → mMem → Prop} {m : mMem} {x0 : Nat} {x1 : Int32} {y0 : Nat} (hT : mWT m) (hOx0 : m.1 x0 = some (.inr 0) ∧ x0 ≠ 0) (hOy0 : m.1 y0 = some (.inr 4) ∧ y0 ≠ 0)
    (h : mEs d 78 b g78 (15, [some (.ref x0), some (.int x1)], [.ref y0], m) Q) :
    mEs d 78 b g78 (8, [some (.ref x0), some (.int x1)], [.ref y0], m) Q := by
  refine e_goto (t := 15) (dAt D78 4 rfl) ⟨by decide, by decide⟩ ?_
  exact h
-- PlaceNets.flowsNow.(I)LPlaceNets$Flows;, from 15
set_option maxRecDepth 20000 in
theorem bk78_15 {d b : Nat} {Q : Option Value → mMem → Prop} {m : mMem} {x0 : Nat} {x1 : Int32} {y0 : Nat} (hT : mWT m) (hOx0 : m.1 x0 = some (.inr 0) ∧ x0 ≠ 0) (hOy0 : m.1 y0 = some (.inr 4) ∧ y0 ≠ 0)
    (h : Q (some (.ref y0)) m) :
    mEs d 78 b g78 (15, [some (.ref x0), some (.int x1)], [.ref y0], m) Q := by
  exact e_areturn (dAt D78 7 rfl) rfl h
-- PlaceNets.kept.(I)I, from 0
set_option maxRecDepth 20000 in
theorem bk94_0 {d b : Nat} {Q : Option Value → mMem → Prop} {m : mMem} {x0 : Nat} {x1 : Int32} {x2 : Option Value} (hT : mWT m) (hOx0 : m.1 x0 = some (.inr 0) ∧ x0 ≠ 0)
    (h : mEv d 21 [.ref x0] m (fun r m' => mEs d 94 b g94 (4, [some (.ref x0), some (.int x1), x2], r.toList ++ [], m') Q)) :
    mEs d 94 b g94 (0, [some (.ref x0), some (.int x1), x2], [], m) Q := by
  refine e_aload_n (pc' := 1) (dAt D94 0 rfl) rfl rfl ?_
  exact e_call2 h (dAt D94 1 rfl) (hi0 rfl) rfl G21 (by decide) rfl (Nat.le_of_ble_eq_true rfl) (kV hOx0 rfl rfl) rfl rfl
-- PlaceNets.kept.(I)I, from 4
set_option maxRecDepth 20000 in
theorem bk94_4 {d b : Nat} {Q : Option Value → mMem → Prop} {m : mMem} {x0 : Nat} {x1 : Int32} {x2 : Option Value} {y0 : Int32} (hT : mWT m) (hOx0 : m.1 x0 = some (.inr 0) ∧ x0 ≠ 0)
    (h : (((y0 = 0) → (Q (some (.int ((-1)))) m)) ∧ (¬ (y0 = 0) → (((0 ≤ x1) → (mEv d 79 [.ref x0] m (fun r m' => mEs d 94 b g94 (17, [some (.ref x0), some (.int x1), x2], r.toList ++ [], m') Q))) ∧ (¬ (0 ≤ x1) → (Q (some (.int ((-1)))) m)))))) :
    mEs d 94 b g94 (4, [some (.ref x0), some (.int x1), x2], [.int y0], m) Q := by
  refine e_if_eq (t := 11) (pc' := 7) (dAt D94 2 rfl) ⟨by decide, by decide⟩ rfl (fun c => ?_) (fun c => ?_)
  · replace h := h.1 c
    refine e_iconst (pc' := 12) (v := (-1)) (dAt D94 5 rfl) rfl (by decide) ?_
    exact e_ireturn (dAt D94 6 rfl) rfl ⟨rfl, fun e => by cases e⟩ h
  · replace h := h.2 c
    refine e_iload_n (pc' := 8) (dAt D94 3 rfl) rfl rfl ?_
    refine e_if_ge (t := 13) (pc' := 11) (dAt D94 4 rfl) ⟨by decide, by decide⟩ rfl (fun c => ?_) (fun c => ?_)
    · replace h := h.1 c
      refine e_aload_n (pc' := 14) (dAt D94 7 rfl) rfl rfl ?_
      exact e_call2 h (dAt D94 8 rfl) (hi0 rfl) rfl G79 (by decide) rfl (Nat.le_of_ble_eq_true rfl) (kV hOx0 rfl rfl) rfl rfl
    · replace h := h.2 c
      refine e_iconst (pc' := 12) (v := (-1)) (dAt D94 5 rfl) rfl (by decide) ?_
      exact e_ireturn (dAt D94 6 rfl) rfl ⟨rfl, fun e => by cases e⟩ h
-- PlaceNets.kept.(I)I, from 17
set_option maxRecDepth 20000 in
theorem bk94_17 {d b : Nat} {Q : Option Value → mMem → Prop} {m : mMem} {x0 : Nat} {x1 : Int32} {x2 : Option Value} {y0 : Nat} (hT : mWT m) (hOx0 : m.1 x0 = some (.inr 0) ∧ x0 ≠ 0) (hOy0 : m.1 y0 = some (.inr 4) ∧ y0 ≠ 0)
    (h : ((((iF m y0 2) = 0) → (mEv d 95 [.ref y0, .int x1, .ref (64 * x0 + 4)] m (fun r m' => mEs d 94 b g94 (39, [some (.ref x0), some (.int x1), some (.ref y0)], r.toList ++ [], m') Q))) ∧ (¬ ((iF m y0 2) = 0) → (mEs d 94 b g94 (39, [some (.ref x0), some (.int x1), some (.ref y0)], [.int ((-2))], m) Q)))) :
    mEs d 94 b g94 (17, [some (.ref x0), some (.int x1), x2], [.ref y0], m) Q := by
  refine e_astore_n (pc' := 18) (dAt D94 9 rfl) rfl (Nat.le_of_ble_eq_true rfl) rfl ?_
  refine e_aload_n (pc' := 19) (dAt D94 10 rfl) rfl rfl ?_
  refine e_getfield (pc' := 22) (dAt D94 11 rfl) rfl rfl hOy0 (hT.int hOy0 2 (by decide)) ?_
  refine e_if_eq (t := 30) (pc' := 25) (dAt D94 12 rfl) ⟨by decide, by decide⟩ rfl (fun c => ?_) (fun c => ?_)
  · replace h := h.1 c
    refine e_aload_n (pc' := 31) (dAt D94 15 rfl) rfl rfl ?_
    refine e_iload_n (pc' := 32) (dAt D94 16 rfl) rfl rfl ?_
    refine e_aload_n (pc' := 33) (dAt D94 17 rfl) rfl rfl ?_
    refine e_getfield (pc' := 36) (dAt D94 18 rfl) rfl rfl hOx0 (hT.own hOx0 0 rfl) ?_
    exact e_call2 h (dAt D94 19 rfl) (hi0 rfl) rfl G95 (by decide) rfl (Nat.le_of_ble_eq_true rfl) (kV hOy0 rfl rfl) rfl rfl
  · replace h := h.2 c
    refine e_bipush (pc' := 27) (v := (-2)) (dAt D94 13 rfl) rfl (by decide) ?_
    refine e_goto (t := 39) (dAt D94 14 rfl) ⟨by decide, by decide⟩ ?_
    exact h
-- PlaceNets.kept.(I)I, from 39
set_option maxRecDepth 20000 in
theorem bk94_39 {d b : Nat} {Q : Option Value → mMem → Prop} {m : mMem} {x0 : Nat} {x1 : Int32} {x2 : Nat} {y0 : Int32} (hT : mWT m) (hOx0 : m.1 x0 = some (.inr 0) ∧ x0 ≠ 0) (hOx2 : m.1 x2 = some (.inr 4) ∧ x2 ≠ 0)
    (h : Q (some (.int y0)) m) :
    mEs d 94 b g94 (39, [some (.ref x0), some (.int x1), some (.ref x2)], [.int y0], m) Q := by
  exact e_ireturn (dAt D94 20 rfl) rfl ⟨rfl, fun e => by cases e⟩ h
-- PlaceNets.least.(II)I, from 0
set_option maxRecDepth 20000 in
theorem bk96_0 {d b : Nat} {Q : Option Value → mMem → Prop} {m : mMem} {x0 : Nat} {x1 : Int32} {x2 : Int32} {x3 : Option Value} (hT : mWT m) (hOx0 : m.1 x0 = some (.inr 0) ∧ x0 ≠ 0)
    (h : mEv d 21 [.ref x0] m (fun r m' => mEs d 96 b g96 (4, [some (.ref x0), some (.int x1), some (.int x2), x3], r.toList ++ [], m') Q)) :
    mEs d 96 b g96 (0, [some (.ref x0), some (.int x1), some (.int x2), x3], [], m) Q := by
  refine e_aload_n (pc' := 1) (dAt D96 0 rfl) rfl rfl ?_
  exact e_call2 h (dAt D96 1 rfl) (hi0 rfl) rfl G21 (by decide) rfl (Nat.le_of_ble_eq_true rfl) (kV hOx0 rfl rfl) rfl rfl
-- PlaceNets.least.(II)I, from 4
set_option maxRecDepth 20000 in
theorem bk96_4 {d b : Nat} {Q : Option Value → mMem → Prop} {m : mMem} {x0 : Nat} {x1 : Int32} {x2 : Int32} {x3 : Option Value} {y0 : Int32} (hT : mWT m) (hOx0 : m.1 x0 = some (.inr 0) ∧ x0 ≠ 0)
    (h : (((y0 = 0) → (Q (some (.int ((-1)))) m)) ∧ (¬ (y0 = 0) → (((x1 < 0) → (Q (some (.int ((-1)))) m)) ∧ (¬ (x1 < 0) → (((1 < x1) → (Q (some (.int ((-1)))) m)) ∧ (¬ (1 < x1) → (((((-1)) ≤ x2) → (mEv d 97 [.ref x0] m (fun r m' => mEs d 96 b g96 (27, [some (.ref x0), some (.int x1), some (.int x2), x3], r.toList ++ [], m') Q))) ∧ (¬ (((-1)) ≤ x2) → (Q (some (.int ((-1)))) m)))))))))) :
    mEs d 96 b g96 (4, [some (.ref x0), some (.int x1), some (.int x2), x3], [.int y0], m) Q := by
  refine e_if_eq (t := 21) (pc' := 7) (dAt D96 2 rfl) ⟨by decide, by decide⟩ rfl (fun c => ?_) (fun c => ?_)
  · replace h := h.1 c
    refine e_iconst (pc' := 22) (v := (-1)) (dAt D96 11 rfl) rfl (by decide) ?_
    exact e_ireturn (dAt D96 12 rfl) rfl ⟨rfl, fun e => by cases e⟩ h
  · replace h := h.2 c
    refine e_iload_n (pc' := 8) (dAt D96 3 rfl) rfl rfl ?_
    refine e_if_lt (t := 21) (pc' := 11) (dAt D96 4 rfl) ⟨by decide, by decide⟩ rfl (fun c => ?_) (fun c => ?_)
    · replace h := h.1 c
      refine e_iconst (pc' := 22) (v := (-1)) (dAt D96 11 rfl) rfl (by decide) ?_
      exact e_ireturn (dAt D96 12 rfl) rfl ⟨rfl, fun e => by cases e⟩ h
    · replace h := h.2 c
      refine e_iload_n (pc' := 12) (dAt D96 5 rfl) rfl rfl ?_
      refine e_iconst (pc' := 13) (v := 1) (dAt D96 6 rfl) rfl (by decide) ?_
      refine e_icmp_gt (t := 21) (pc' := 16) (dAt D96 7 rfl) ⟨by decide, by decide⟩ rfl (fun c => ?_) (fun c => ?_)
      · replace h := h.1 c
        refine e_iconst (pc' := 22) (v := (-1)) (dAt D96 11 rfl) rfl (by decide) ?_
        exact e_ireturn (dAt D96 12 rfl) rfl ⟨rfl, fun e => by cases e⟩ h
      · replace h := h.2 c
        refine e_iload_n (pc' := 17) (dAt D96 8 rfl) rfl rfl ?_
        refine e_iconst (pc' := 18) (v := (-1)) (dAt D96 9 rfl) rfl (by decide) ?_
        refine e_icmp_ge (t := 23) (pc' := 21) (dAt D96 10 rfl) ⟨by decide, by decide⟩ rfl (fun c => ?_) (fun c => ?_)
        · replace h := h.1 c
          refine e_aload_n (pc' := 24) (dAt D96 13 rfl) rfl rfl ?_
          exact e_call2 h (dAt D96 14 rfl) (hi0 rfl) rfl G97 (by decide) rfl (Nat.le_of_ble_eq_true rfl) (kV hOx0 rfl rfl) rfl rfl
        · replace h := h.2 c
          refine e_iconst (pc' := 22) (v := (-1)) (dAt D96 11 rfl) rfl (by decide) ?_
          exact e_ireturn (dAt D96 12 rfl) rfl ⟨rfl, fun e => by cases e⟩ h
-- PlaceNets.least.(II)I, from 27
set_option maxRecDepth 20000 in
theorem bk96_27 {d b : Nat} {Q : Option Value → mMem → Prop} {m : mMem} {x0 : Nat} {x1 : Int32} {x2 : Int32} {x3 : Option Value} {y0 : Nat} (hT : mWT m) (hOx0 : m.1 x0 = some (.inr 0) ∧ x0 ≠ 0) (hOy0 : m.1 y0 = some (.inr 6) ∧ y0 ≠ 0)
    (h : (((¬ x2 = ((-1))) → (mEv d 107 [.ref y0, .int x1, .int x2] m (fun r m' => mEs d 96 b g96 (47, [some (.ref x0), some (.int x1), some (.int x2), some (.ref y0)], r.toList ++ [], m') Q))) ∧ (¬ (¬ x2 = ((-1))) → (mEv d 106 [.ref y0, .int x1] m (fun r m' => mEs d 96 b g96 (38, [some (.ref x0), some (.int x1), some (.int x2), some (.ref y0)], r.toList ++ [], m') Q))))) :
    mEs d 96 b g96 (27, [some (.ref x0), some (.int x1), some (.int x2), x3], [.ref y0], m) Q := by
  refine e_astore_n (pc' := 28) (dAt D96 15 rfl) rfl (Nat.le_of_ble_eq_true rfl) rfl ?_
  refine e_iload_n (pc' := 29) (dAt D96 16 rfl) rfl rfl ?_
  refine e_iconst (pc' := 30) (v := (-1)) (dAt D96 17 rfl) rfl (by decide) ?_
  refine e_icmp_ne (t := 41) (pc' := 33) (dAt D96 18 rfl) ⟨by decide, by decide⟩ rfl (fun c => ?_) (fun c => ?_)
  · replace h := h.1 c
    refine e_aload_n (pc' := 42) (dAt D96 23 rfl) rfl rfl ?_
    refine e_iload_n (pc' := 43) (dAt D96 24 rfl) rfl rfl ?_
    refine e_iload_n (pc' := 44) (dAt D96 25 rfl) rfl rfl ?_
    exact e_call2 h (dAt D96 26 rfl) (hi0 rfl) rfl G107 (by decide) rfl (Nat.le_of_ble_eq_true rfl) (kV hOy0 rfl rfl) rfl rfl
  · replace h := h.2 c
    refine e_aload_n (pc' := 34) (dAt D96 19 rfl) rfl rfl ?_
    refine e_iload_n (pc' := 35) (dAt D96 20 rfl) rfl rfl ?_
    exact e_call2 h (dAt D96 21 rfl) (hi0 rfl) rfl G106 (by decide) rfl (Nat.le_of_ble_eq_true rfl) (kV hOy0 rfl rfl) rfl rfl
-- PlaceNets.least.(II)I, from 38
set_option maxRecDepth 20000 in
theorem bk96_38 {d b : Nat} {Q : Option Value → mMem → Prop} {m : mMem} {x0 : Nat} {x1 : Int32} {x2 : Int32} {x3 : Nat} {y0 : Int32} (hT : mWT m) (hOx0 : m.1 x0 = some (.inr 0) ∧ x0 ≠ 0) (hOx3 : m.1 x3 = some (.inr 6) ∧ x3 ≠ 0)
    (h : mEs d 96 b g96 (47, [some (.ref x0), some (.int x1), some (.int x2), some (.ref x3)], [.int y0], m) Q) :
    mEs d 96 b g96 (38, [some (.ref x0), some (.int x1), some (.int x2), some (.ref x3)], [.int y0], m) Q := by
  refine e_goto (t := 47) (dAt D96 22 rfl) ⟨by decide, by decide⟩ ?_
  exact h
-- PlaceNets.least.(II)I, from 47
set_option maxRecDepth 20000 in
theorem bk96_47 {d b : Nat} {Q : Option Value → mMem → Prop} {m : mMem} {x0 : Nat} {x1 : Int32} {x2 : Int32} {x3 : Nat} {y0 : Int32} (hT : mWT m) (hOx0 : m.1 x0 = some (.inr 0) ∧ x0 ≠ 0) (hOx3 : m.1 x3 = some (.inr 6) ∧ x3 ≠ 0)
    (h : Q (some (.int y0)) m) :
    mEs d 96 b g96 (47, [some (.ref x0), some (.int x1), some (.int x2), some (.ref x3)], [.int y0], m) Q := by
  exact e_ireturn (dAt D96 27 rfl) rfl ⟨rfl, fun e => by cases e⟩ h
-- PlaceNets.trapIn.(I)I, from 0
set_option maxRecDepth 20000 in
theorem bk108_0 {d b : Nat} {Q : Option Value → mMem → Prop} {m : mMem} {x0 : Nat} {x1 : Int32} (hT : mWT m) (hOx0 : m.1 x0 = some (.inr 0) ∧ x0 ≠ 0)
    (h : mEv d 21 [.ref x0] m (fun r m' => mEs d 108 b g108 (4, [some (.ref x0), some (.int x1)], r.toList ++ [], m') Q)) :
    mEs d 108 b g108 (0, [some (.ref x0), some (.int x1)], [], m) Q := by
  refine e_aload_n (pc' := 1) (dAt D108 0 rfl) rfl rfl ?_
  exact e_call2 h (dAt D108 1 rfl) (hi0 rfl) rfl G21 (by decide) rfl (Nat.le_of_ble_eq_true rfl) (kV hOx0 rfl rfl) rfl rfl
-- PlaceNets.trapIn.(I)I, from 4
set_option maxRecDepth 20000 in
theorem bk108_4 {d b : Nat} {Q : Option Value → mMem → Prop} {m : mMem} {x0 : Nat} {x1 : Int32} {y0 : Int32} (hT : mWT m) (hOx0 : m.1 x0 = some (.inr 0) ∧ x0 ≠ 0)
    (h : (((y0 = 0) → (Q (some (.int ((-1)))) m)) ∧ (¬ (y0 = 0) → (((x1 < 0) → (Q (some (.int ((-1)))) m)) ∧ (¬ (x1 < 0) → (∃ (r_1 : Nat), (m.2.1 x0 1 = .ref r_1) ∧ ((m.1 r_1 = some (.inr 2) ∧ r_1 ≠ 0) ∧ (((x1 < ((1 : Int32) <<< ((iF m r_1 0) &&& 31))) → (mEv d 97 [.ref x0] m (fun r m' => mEs d 108 b g108 (30, [some (.ref x0), some (.int x1)], r.toList ++ [], m') Q))) ∧ (¬ (x1 < ((1 : Int32) <<< ((iF m r_1 0) &&& 31))) → (Q (some (.int ((-1)))) m)))))))))) :
    mEs d 108 b g108 (4, [some (.ref x0), some (.int x1)], [.int y0], m) Q := by
  refine e_if_eq (t := 24) (pc' := 7) (dAt D108 2 rfl) ⟨by decide, by decide⟩ rfl (fun c => ?_) (fun c => ?_)
  · replace h := h.1 c
    refine e_iconst (pc' := 25) (v := (-1)) (dAt D108 12 rfl) rfl (by decide) ?_
    exact e_ireturn (dAt D108 13 rfl) rfl ⟨rfl, fun e => by cases e⟩ h
  · replace h := h.2 c
    refine e_iload_n (pc' := 8) (dAt D108 3 rfl) rfl rfl ?_
    refine e_if_lt (t := 24) (pc' := 11) (dAt D108 4 rfl) ⟨by decide, by decide⟩ rfl (fun c => ?_) (fun c => ?_)
    · replace h := h.1 c
      refine e_iconst (pc' := 25) (v := (-1)) (dAt D108 12 rfl) rfl (by decide) ?_
      exact e_ireturn (dAt D108 13 rfl) rfl ⟨rfl, fun e => by cases e⟩ h
    · replace h := h.2 c
      refine e_iload_n (pc' := 12) (dAt D108 5 rfl) rfl rfl ?_
      refine e_iconst (pc' := 13) (v := 1) (dAt D108 6 rfl) rfl (by decide) ?_
      refine e_aload_n (pc' := 14) (dAt D108 7 rfl) rfl rfl ?_
      obtain ⟨r_1, f1, f_2, h⟩ := h
      refine e_getfield (pc' := 17) (dAt D108 8 rfl) rfl rfl hOx0 f1 ?_
      refine e_getfield (pc' := 20) (dAt D108 9 rfl) rfl rfl f_2 (hT.int f_2 0 (by decide)) ?_
      refine e_ishl (pc' := 21) (dAt D108 10 rfl) rfl ?_
      refine e_icmp_lt (t := 26) (pc' := 24) (dAt D108 11 rfl) ⟨by decide, by decide⟩ rfl (fun c => ?_) (fun c => ?_)
      · replace h := h.1 c
        refine e_aload_n (pc' := 27) (dAt D108 14 rfl) rfl rfl ?_
        exact e_call2 h (dAt D108 15 rfl) (hi0 rfl) rfl G97 (by decide) rfl (Nat.le_of_ble_eq_true rfl) (kV hOx0 rfl rfl) rfl rfl
      · replace h := h.2 c
        refine e_iconst (pc' := 25) (v := (-1)) (dAt D108 12 rfl) rfl (by decide) ?_
        exact e_ireturn (dAt D108 13 rfl) rfl ⟨rfl, fun e => by cases e⟩ h
-- PlaceNets.trapIn.(I)I, from 30
set_option maxRecDepth 20000 in
theorem bk108_30 {d b : Nat} {Q : Option Value → mMem → Prop} {m : mMem} {x0 : Nat} {x1 : Int32} {y0 : Nat} (hT : mWT m) (hOx0 : m.1 x0 = some (.inr 0) ∧ x0 ≠ 0) (hOy0 : m.1 y0 = some (.inr 6) ∧ y0 ≠ 0)
    (h : mEv d 109 [.ref y0, .int x1] m (fun r m' => mEs d 108 b g108 (34, [some (.ref x0), some (.int x1)], r.toList ++ [], m') Q)) :
    mEs d 108 b g108 (30, [some (.ref x0), some (.int x1)], [.ref y0], m) Q := by
  refine e_iload_n (pc' := 31) (dAt D108 16 rfl) rfl rfl ?_
  exact e_call2 h (dAt D108 17 rfl) (hi0 rfl) rfl G109 (by decide) rfl (Nat.le_of_ble_eq_true rfl) (kV hOy0 rfl rfl) rfl rfl
-- PlaceNets.trapIn.(I)I, from 34
set_option maxRecDepth 20000 in
theorem bk108_34 {d b : Nat} {Q : Option Value → mMem → Prop} {m : mMem} {x0 : Nat} {x1 : Int32} {y0 : Int32} (hT : mWT m) (hOx0 : m.1 x0 = some (.inr 0) ∧ x0 ≠ 0)
    (h : Q (some (.int y0)) m) :
    mEs d 108 b g108 (34, [some (.ref x0), some (.int x1)], [.int y0], m) Q := by
  exact e_ireturn (dAt D108 18 rfl) rfl ⟨rfl, fun e => by cases e⟩ h
-- PlaceNets.kinds.()I, from 0
set_option maxRecDepth 20000 in
theorem bk110_0 {d b : Nat} {Q : Option Value → mMem → Prop} {m : mMem} {x0 : Nat} (hT : mWT m) (hOx0 : m.1 x0 = some (.inr 0) ∧ x0 ≠ 0)
    (h : mEv d 21 [.ref x0] m (fun r m' => mEs d 110 b g110 (4, [some (.ref x0)], r.toList ++ [], m') Q)) :
    mEs d 110 b g110 (0, [some (.ref x0)], [], m) Q := by
  refine e_aload_n (pc' := 1) (dAt D110 0 rfl) rfl rfl ?_
  exact e_call2 h (dAt D110 1 rfl) (hi0 rfl) rfl G21 (by decide) rfl (Nat.le_of_ble_eq_true rfl) (kV hOx0 rfl rfl) rfl rfl
-- PlaceNets.kinds.()I, from 4
set_option maxRecDepth 20000 in
theorem bk110_4 {d b : Nat} {Q : Option Value → mMem → Prop} {m : mMem} {x0 : Nat} {y0 : Int32} (hT : mWT m) (hOx0 : m.1 x0 = some (.inr 0) ∧ x0 ≠ 0)
    (h : (((¬ y0 = 0) → (∃ (r_1 : Nat), (m.2.1 x0 1 = .ref r_1) ∧ ((m.1 r_1 = some (.inr 2) ∧ r_1 ≠ 0) ∧ (mEv d 111 [.ref r_1] m (fun r m' => mEs d 110 b g110 (16, [some (.ref x0)], r.toList ++ [], m') Q))))) ∧ (¬ (¬ y0 = 0) → (Q (some (.int ((-1)))) m)))) :
    mEs d 110 b g110 (4, [some (.ref x0)], [.int y0], m) Q := by
  refine e_if_ne (t := 9) (pc' := 7) (dAt D110 2 rfl) ⟨by decide, by decide⟩ rfl (fun c => ?_) (fun c => ?_)
  · replace h := h.1 c
    refine e_aload_n (pc' := 10) (dAt D110 5 rfl) rfl rfl ?_
    obtain ⟨r_1, f1, f_2, h⟩ := h
    refine e_getfield (pc' := 13) (dAt D110 6 rfl) rfl rfl hOx0 f1 ?_
    exact e_call2 h (dAt D110 7 rfl) (hi0 rfl) rfl G111 (by decide) rfl (Nat.le_of_ble_eq_true rfl) (kV f_2 rfl rfl) rfl rfl
  · replace h := h.2 c
    refine e_iconst (pc' := 8) (v := (-1)) (dAt D110 3 rfl) rfl (by decide) ?_
    exact e_ireturn (dAt D110 4 rfl) rfl ⟨rfl, fun e => by cases e⟩ h
-- PlaceNets.kinds.()I, from 16
set_option maxRecDepth 20000 in
theorem bk110_16 {d b : Nat} {Q : Option Value → mMem → Prop} {m : mMem} {x0 : Nat} {y0 : Int32} (hT : mWT m) (hOx0 : m.1 x0 = some (.inr 0) ∧ x0 ≠ 0)
    (h : (((y0 = 0) → (∃ (r_1 : Nat), (m.2.1 x0 1 = .ref r_1) ∧ ((m.1 r_1 = some (.inr 2) ∧ r_1 ≠ 0) ∧ (mEv d 112 [.ref r_1] m (fun r m' => mEs d 110 b g110 (31, [some (.ref x0)], r.toList ++ [.int 0], m') Q))))) ∧ (¬ (y0 = 0) → (∃ (r_3 : Nat), (m.2.1 x0 1 = .ref r_3) ∧ ((m.1 r_3 = some (.inr 2) ∧ r_3 ≠ 0) ∧ (mEv d 112 [.ref r_3] m (fun r m' => mEs d 110 b g110 (31, [some (.ref x0)], r.toList ++ [.int 1], m') Q))))))) :
    mEs d 110 b g110 (16, [some (.ref x0)], [.int y0], m) Q := by
  refine e_if_eq (t := 23) (pc' := 19) (dAt D110 8 rfl) ⟨by decide, by decide⟩ rfl (fun c => ?_) (fun c => ?_)
  · replace h := h.1 c
    refine e_iconst (pc' := 24) (v := 0) (dAt D110 11 rfl) rfl (by decide) ?_
    refine e_aload_n (pc' := 25) (dAt D110 12 rfl) rfl rfl ?_
    obtain ⟨r_1, f1, f_2, h⟩ := h
    refine e_getfield (pc' := 28) (dAt D110 13 rfl) rfl rfl hOx0 f1 ?_
    exact e_call2 h (dAt D110 14 rfl) (hi0 rfl) rfl G112 (by decide) rfl (Nat.le_of_ble_eq_true rfl) (kV f_2 rfl rfl) rfl rfl
  · replace h := h.2 c
    refine e_iconst (pc' := 20) (v := 1) (dAt D110 9 rfl) rfl (by decide) ?_
    refine e_goto (t := 24) (dAt D110 10 rfl) ⟨by decide, by decide⟩ ?_
    refine e_aload_n (pc' := 25) (dAt D110 12 rfl) rfl rfl ?_
    obtain ⟨r_3, f1, f_4, h⟩ := h
    refine e_getfield (pc' := 28) (dAt D110 13 rfl) rfl rfl hOx0 f1 ?_
    exact e_call2 h (dAt D110 14 rfl) (hi0 rfl) rfl G112 (by decide) rfl (Nat.le_of_ble_eq_true rfl) (kV f_4 rfl rfl) rfl rfl
-- PlaceNets.kinds.()I, from 31
set_option maxRecDepth 20000 in
theorem bk110_31 {d b : Nat} {Q : Option Value → mMem → Prop} {m : mMem} {x0 : Nat} {y0 : Int32} {y1 : Int32} (hT : mWT m) (hOx0 : m.1 x0 = some (.inr 0) ∧ x0 ≠ 0)
    (h : (((y1 = 0) → (∃ (r_1 : Nat), (m.2.1 x0 1 = .ref r_1) ∧ ((m.1 r_1 = some (.inr 2) ∧ r_1 ≠ 0) ∧ (mEv d 113 [.ref r_1] m (fun r m' => mEs d 110 b g110 (47, [some (.ref x0)], r.toList ++ [.int (y0 + 0)], m') Q))))) ∧ (¬ (y1 = 0) → (∃ (r_3 : Nat), (m.2.1 x0 1 = .ref r_3) ∧ ((m.1 r_3 = some (.inr 2) ∧ r_3 ≠ 0) ∧ (mEv d 113 [.ref r_3] m (fun r m' => mEs d 110 b g110 (47, [some (.ref x0)], r.toList ++ [.int (y0 + 2)], m') Q))))))) :
    mEs d 110 b g110 (31, [some (.ref x0)], [.int y1, .int y0], m) Q := by
  refine e_if_eq (t := 38) (pc' := 34) (dAt D110 15 rfl) ⟨by decide, by decide⟩ rfl (fun c => ?_) (fun c => ?_)
  · replace h := h.1 c
    refine e_iconst (pc' := 39) (v := 0) (dAt D110 18 rfl) rfl (by decide) ?_
    refine e_iadd (pc' := 40) (dAt D110 19 rfl) rfl ?_
    refine e_aload_n (pc' := 41) (dAt D110 20 rfl) rfl rfl ?_
    obtain ⟨r_1, f1, f_2, h⟩ := h
    refine e_getfield (pc' := 44) (dAt D110 21 rfl) rfl rfl hOx0 f1 ?_
    exact e_call2 h (dAt D110 22 rfl) (hi0 rfl) rfl G113 (by decide) rfl (Nat.le_of_ble_eq_true rfl) (kV f_2 rfl rfl) rfl rfl
  · replace h := h.2 c
    refine e_iconst (pc' := 35) (v := 2) (dAt D110 16 rfl) rfl (by decide) ?_
    refine e_goto (t := 39) (dAt D110 17 rfl) ⟨by decide, by decide⟩ ?_
    refine e_iadd (pc' := 40) (dAt D110 19 rfl) rfl ?_
    refine e_aload_n (pc' := 41) (dAt D110 20 rfl) rfl rfl ?_
    obtain ⟨r_3, f1, f_4, h⟩ := h
    refine e_getfield (pc' := 44) (dAt D110 21 rfl) rfl rfl hOx0 f1 ?_
    exact e_call2 h (dAt D110 22 rfl) (hi0 rfl) rfl G113 (by decide) rfl (Nat.le_of_ble_eq_true rfl) (kV f_4 rfl rfl) rfl rfl
-- PlaceNets.kinds.()I, from 47
set_option maxRecDepth 20000 in
theorem bk110_47 {d b : Nat} {Q : Option Value → mMem → Prop} {m : mMem} {x0 : Nat} {y0 : Int32} {y1 : Int32} (hT : mWT m) (hOx0 : m.1 x0 = some (.inr 0) ∧ x0 ≠ 0)
    (h : (((y1 = 0) → (∃ (r_1 : Nat), (m.2.1 x0 1 = .ref r_1) ∧ ((m.1 r_1 = some (.inr 2) ∧ r_1 ≠ 0) ∧ (mEv d 115 [.ref r_1] m (fun r m' => mEs d 110 b g110 (63, [some (.ref x0)], r.toList ++ [.int (y0 + 0)], m') Q))))) ∧ (¬ (y1 = 0) → (∃ (r_3 : Nat), (m.2.1 x0 1 = .ref r_3) ∧ ((m.1 r_3 = some (.inr 2) ∧ r_3 ≠ 0) ∧ (mEv d 115 [.ref r_3] m (fun r m' => mEs d 110 b g110 (63, [some (.ref x0)], r.toList ++ [.int (y0 + 4)], m') Q))))))) :
    mEs d 110 b g110 (47, [some (.ref x0)], [.int y1, .int y0], m) Q := by
  refine e_if_eq (t := 54) (pc' := 50) (dAt D110 23 rfl) ⟨by decide, by decide⟩ rfl (fun c => ?_) (fun c => ?_)
  · replace h := h.1 c
    refine e_iconst (pc' := 55) (v := 0) (dAt D110 26 rfl) rfl (by decide) ?_
    refine e_iadd (pc' := 56) (dAt D110 27 rfl) rfl ?_
    refine e_aload_n (pc' := 57) (dAt D110 28 rfl) rfl rfl ?_
    obtain ⟨r_1, f1, f_2, h⟩ := h
    refine e_getfield (pc' := 60) (dAt D110 29 rfl) rfl rfl hOx0 f1 ?_
    exact e_call2 h (dAt D110 30 rfl) (hi0 rfl) rfl G115 (by decide) rfl (Nat.le_of_ble_eq_true rfl) (kV f_2 rfl rfl) rfl rfl
  · replace h := h.2 c
    refine e_iconst (pc' := 51) (v := 4) (dAt D110 24 rfl) rfl (by decide) ?_
    refine e_goto (t := 55) (dAt D110 25 rfl) ⟨by decide, by decide⟩ ?_
    refine e_iadd (pc' := 56) (dAt D110 27 rfl) rfl ?_
    refine e_aload_n (pc' := 57) (dAt D110 28 rfl) rfl rfl ?_
    obtain ⟨r_3, f1, f_4, h⟩ := h
    refine e_getfield (pc' := 60) (dAt D110 29 rfl) rfl rfl hOx0 f1 ?_
    exact e_call2 h (dAt D110 30 rfl) (hi0 rfl) rfl G115 (by decide) rfl (Nat.le_of_ble_eq_true rfl) (kV f_4 rfl rfl) rfl rfl
-- PlaceNets.kinds.()I, from 63
set_option maxRecDepth 20000 in
theorem bk110_63 {d b : Nat} {Q : Option Value → mMem → Prop} {m : mMem} {x0 : Nat} {y0 : Int32} {y1 : Int32} (hT : mWT m) (hOx0 : m.1 x0 = some (.inr 0) ∧ x0 ≠ 0)
    (h : (((y1 = 0) → (∃ (r_1 : Nat), (m.2.1 x0 1 = .ref r_1) ∧ ((m.1 r_1 = some (.inr 2) ∧ r_1 ≠ 0) ∧ (mEv d 116 [.ref r_1] m (fun r m' => mEs d 110 b g110 (80, [some (.ref x0)], r.toList ++ [.int (y0 + 0)], m') Q))))) ∧ (¬ (y1 = 0) → (∃ (r_3 : Nat), (m.2.1 x0 1 = .ref r_3) ∧ ((m.1 r_3 = some (.inr 2) ∧ r_3 ≠ 0) ∧ (mEv d 116 [.ref r_3] m (fun r m' => mEs d 110 b g110 (80, [some (.ref x0)], r.toList ++ [.int (y0 + 8)], m') Q))))))) :
    mEs d 110 b g110 (63, [some (.ref x0)], [.int y1, .int y0], m) Q := by
  refine e_if_eq (t := 71) (pc' := 66) (dAt D110 31 rfl) ⟨by decide, by decide⟩ rfl (fun c => ?_) (fun c => ?_)
  · replace h := h.1 c
    refine e_iconst (pc' := 72) (v := 0) (dAt D110 34 rfl) rfl (by decide) ?_
    refine e_iadd (pc' := 73) (dAt D110 35 rfl) rfl ?_
    refine e_aload_n (pc' := 74) (dAt D110 36 rfl) rfl rfl ?_
    obtain ⟨r_1, f1, f_2, h⟩ := h
    refine e_getfield (pc' := 77) (dAt D110 37 rfl) rfl rfl hOx0 f1 ?_
    exact e_call2 h (dAt D110 38 rfl) (hi0 rfl) rfl G116 (by decide) rfl (Nat.le_of_ble_eq_true rfl) (kV f_2 rfl rfl) rfl rfl
  · replace h := h.2 c
    refine e_bipush (pc' := 68) (v := 8) (dAt D110 32 rfl) rfl (by decide) ?_
    refine e_goto (t := 72) (dAt D110 33 rfl) ⟨by decide, by decide⟩ ?_
    refine e_iadd (pc' := 73) (dAt D110 35 rfl) rfl ?_
    refine e_aload_n (pc' := 74) (dAt D110 36 rfl) rfl rfl ?_
    obtain ⟨r_3, f1, f_4, h⟩ := h
    refine e_getfield (pc' := 77) (dAt D110 37 rfl) rfl rfl hOx0 f1 ?_
    exact e_call2 h (dAt D110 38 rfl) (hi0 rfl) rfl G116 (by decide) rfl (Nat.le_of_ble_eq_true rfl) (kV f_4 rfl rfl) rfl rfl
-- PlaceNets.kinds.()I, from 80
set_option maxRecDepth 20000 in
theorem bk110_80 {d b : Nat} {Q : Option Value → mMem → Prop} {m : mMem} {x0 : Nat} {y0 : Int32} {y1 : Int32} (hT : mWT m) (hOx0 : m.1 x0 = some (.inr 0) ∧ x0 ≠ 0)
    (h : (((y1 = 0) → (Q (some (.int (y0 + 0))) m)) ∧ (¬ (y1 = 0) → (Q (some (.int (y0 + 16))) m)))) :
    mEs d 110 b g110 (80, [some (.ref x0)], [.int y1, .int y0], m) Q := by
  refine e_if_eq (t := 88) (pc' := 83) (dAt D110 39 rfl) ⟨by decide, by decide⟩ rfl (fun c => ?_) (fun c => ?_)
  · replace h := h.1 c
    refine e_iconst (pc' := 89) (v := 0) (dAt D110 42 rfl) rfl (by decide) ?_
    refine e_iadd (pc' := 90) (dAt D110 43 rfl) rfl ?_
    exact e_ireturn (dAt D110 44 rfl) rfl ⟨rfl, fun e => by cases e⟩ h
  · replace h := h.2 c
    refine e_bipush (pc' := 85) (v := 16) (dAt D110 40 rfl) rfl (by decide) ?_
    refine e_goto (t := 89) (dAt D110 41 rfl) ⟨by decide, by decide⟩ ?_
    refine e_iadd (pc' := 90) (dAt D110 43 rfl) rfl ?_
    exact e_ireturn (dAt D110 44 rfl) rfl ⟨rfl, fun e => by cases e⟩ h
-- PlaceNets.caught.()I, from 0
set_option maxRecDepth 20000 in
theorem bk117_0 {d b : Nat} {Q : Option Value → mMem → Prop} {m : mMem} {x0 : Nat} (hT : mWT m) (hOx0 : m.1 x0 = some (.inr 0) ∧ x0 ≠ 0)
    (h : mEv d 21 [.ref x0] m (fun r m' => mEs d 117 b g117 (4, [some (.ref x0)], r.toList ++ [], m') Q)) :
    mEs d 117 b g117 (0, [some (.ref x0)], [], m) Q := by
  refine e_aload_n (pc' := 1) (dAt D117 0 rfl) rfl rfl ?_
  exact e_call2 h (dAt D117 1 rfl) (hi0 rfl) rfl G21 (by decide) rfl (Nat.le_of_ble_eq_true rfl) (kV hOx0 rfl rfl) rfl rfl
-- PlaceNets.caught.()I, from 4
set_option maxRecDepth 20000 in
theorem bk117_4 {d b : Nat} {Q : Option Value → mMem → Prop} {m : mMem} {x0 : Nat} {y0 : Int32} (hT : mWT m) (hOx0 : m.1 x0 = some (.inr 0) ∧ x0 ≠ 0)
    (h : (((¬ y0 = 0) → (mEv d 97 [.ref x0] m (fun r m' => mEs d 117 b g117 (13, [some (.ref x0)], r.toList ++ [], m') Q))) ∧ (¬ (¬ y0 = 0) → (Q (some (.int ((-1)))) m)))) :
    mEs d 117 b g117 (4, [some (.ref x0)], [.int y0], m) Q := by
  refine e_if_ne (t := 9) (pc' := 7) (dAt D117 2 rfl) ⟨by decide, by decide⟩ rfl (fun c => ?_) (fun c => ?_)
  · replace h := h.1 c
    refine e_aload_n (pc' := 10) (dAt D117 5 rfl) rfl rfl ?_
    exact e_call2 h (dAt D117 6 rfl) (hi0 rfl) rfl G97 (by decide) rfl (Nat.le_of_ble_eq_true rfl) (kV hOx0 rfl rfl) rfl rfl
  · replace h := h.2 c
    refine e_iconst (pc' := 8) (v := (-1)) (dAt D117 3 rfl) rfl (by decide) ?_
    exact e_ireturn (dAt D117 4 rfl) rfl ⟨rfl, fun e => by cases e⟩ h
-- PlaceNets.caught.()I, from 13
set_option maxRecDepth 20000 in
theorem bk117_13 {d b : Nat} {Q : Option Value → mMem → Prop} {m : mMem} {x0 : Nat} {y0 : Nat} (hT : mWT m) (hOx0 : m.1 x0 = some (.inr 0) ∧ x0 ≠ 0) (hOy0 : m.1 y0 = some (.inr 6) ∧ y0 ≠ 0)
    (h : mEv d 118 [.ref y0, .ref (64 * x0 + 4)] m (fun r m' => mEs d 117 b g117 (20, [some (.ref x0)], r.toList ++ [], m') Q)) :
    mEs d 117 b g117 (13, [some (.ref x0)], [.ref y0], m) Q := by
  refine e_aload_n (pc' := 14) (dAt D117 7 rfl) rfl rfl ?_
  refine e_getfield (pc' := 17) (dAt D117 8 rfl) rfl rfl hOx0 (hT.own hOx0 0 rfl) ?_
  exact e_call2 h (dAt D117 9 rfl) (hi0 rfl) rfl G118 (by decide) rfl (Nat.le_of_ble_eq_true rfl) (kV hOy0 rfl rfl) rfl rfl
-- PlaceNets.caught.()I, from 20
set_option maxRecDepth 20000 in
theorem bk117_20 {d b : Nat} {Q : Option Value → mMem → Prop} {m : mMem} {x0 : Nat} {y0 : Int32} (hT : mWT m) (hOx0 : m.1 x0 = some (.inr 0) ∧ x0 ≠ 0)
    (h : (((y0 = 0) → (Q (some (.int 0)) m)) ∧ (¬ (y0 = 0) → (Q (some (.int 1)) m)))) :
    mEs d 117 b g117 (20, [some (.ref x0)], [.int y0], m) Q := by
  refine e_if_eq (t := 27) (pc' := 23) (dAt D117 10 rfl) ⟨by decide, by decide⟩ rfl (fun c => ?_) (fun c => ?_)
  · replace h := h.1 c
    refine e_iconst (pc' := 28) (v := 0) (dAt D117 13 rfl) rfl (by decide) ?_
    exact e_ireturn (dAt D117 14 rfl) rfl ⟨rfl, fun e => by cases e⟩ h
  · replace h := h.2 c
    refine e_iconst (pc' := 24) (v := 1) (dAt D117 11 rfl) rfl (by decide) ?_
    refine e_goto (t := 28) (dAt D117 12 rfl) ⟨by decide, by decide⟩ ?_
    exact e_ireturn (dAt D117 14 rfl) rfl ⟨rfl, fun e => by cases e⟩ h
-- PlaceNets.event.(II)I, from 0
set_option maxRecDepth 20000 in
theorem bk120_0 {d b : Nat} {Q : Option Value → mMem → Prop} {m : mMem} {x0 : Nat} {x1 : Int32} {x2 : Int32} {x3 : Option Value} {x4 : Option Value} (hT : mWT m) (hOx0 : m.1 x0 = some (.inr 0) ∧ x0 ≠ 0)
    (h : (((¬ x1 = ((-1))) → (((x2 < 0) → (mEv d 21 [.ref x0] m (fun r m' => mEs d 120 b g120 (31, [some (.ref x0), some (.int x1), some (.int x2), some (.int 0), x4], r.toList ++ [], m') Q))) ∧ (¬ (x2 < 0) → (mEv d 21 [.ref x0] m (fun r m' => mEs d 120 b g120 (31, [some (.ref x0), some (.int x1), some (.int x2), some (.int 1), x4], r.toList ++ [], m') Q))))) ∧ (¬ (¬ x1 = ((-1))) → (((¬ x2 = 0) → (mEv d 21 [.ref x0] m (fun r m' => mEs d 120 b g120 (31, [some (.ref x0), some (.int x1), some (.int x2), some (.int 0), x4], r.toList ++ [], m') Q))) ∧ (¬ (¬ x2 = 0) → (mEv d 21 [.ref x0] m (fun r m' => mEs d 120 b g120 (31, [some (.ref x0), some (.int x1), some (.int x2), some (.int 1), x4], r.toList ++ [], m') Q))))))) :
    mEs d 120 b g120 (0, [some (.ref x0), some (.int x1), some (.int x2), x3, x4], [], m) Q := by
  refine e_iload_n (pc' := 1) (dAt D120 0 rfl) rfl rfl ?_
  refine e_iconst (pc' := 2) (v := (-1)) (dAt D120 1 rfl) rfl (by decide) ?_
  refine e_icmp_ne (t := 17) (pc' := 5) (dAt D120 2 rfl) ⟨by decide, by decide⟩ rfl (fun c => ?_) (fun c => ?_)
  · replace h := h.1 c
    refine e_iload_n (pc' := 18) (dAt D120 9 rfl) rfl rfl ?_
    refine e_if_lt (t := 25) (pc' := 21) (dAt D120 10 rfl) ⟨by decide, by decide⟩ rfl (fun c => ?_) (fun c => ?_)
    · replace h := h.1 c
      refine e_iconst (pc' := 26) (v := 0) (dAt D120 13 rfl) rfl (by decide) ?_
      refine e_istore_n (pc' := 27) (dAt D120 14 rfl) rfl (Nat.le_of_ble_eq_true rfl) rfl ?_
      refine e_aload_n (pc' := 28) (dAt D120 15 rfl) rfl rfl ?_
      exact e_call2 h (dAt D120 16 rfl) (hi0 rfl) rfl G21 (by decide) rfl (Nat.le_of_ble_eq_true rfl) (kV hOx0 rfl rfl) rfl rfl
    · replace h := h.2 c
      refine e_iconst (pc' := 22) (v := 1) (dAt D120 11 rfl) rfl (by decide) ?_
      refine e_goto (t := 26) (dAt D120 12 rfl) ⟨by decide, by decide⟩ ?_
      refine e_istore_n (pc' := 27) (dAt D120 14 rfl) rfl (Nat.le_of_ble_eq_true rfl) rfl ?_
      refine e_aload_n (pc' := 28) (dAt D120 15 rfl) rfl rfl ?_
      exact e_call2 h (dAt D120 16 rfl) (hi0 rfl) rfl G21 (by decide) rfl (Nat.le_of_ble_eq_true rfl) (kV hOx0 rfl rfl) rfl rfl
  · replace h := h.2 c
    refine e_iload_n (pc' := 6) (dAt D120 3 rfl) rfl rfl ?_
    refine e_if_ne (t := 13) (pc' := 9) (dAt D120 4 rfl) ⟨by decide, by decide⟩ rfl (fun c => ?_) (fun c => ?_)
    · replace h := h.1 c
      refine e_iconst (pc' := 14) (v := 0) (dAt D120 7 rfl) rfl (by decide) ?_
      refine e_goto (t := 26) (dAt D120 8 rfl) ⟨by decide, by decide⟩ ?_
      refine e_istore_n (pc' := 27) (dAt D120 14 rfl) rfl (Nat.le_of_ble_eq_true rfl) rfl ?_
      refine e_aload_n (pc' := 28) (dAt D120 15 rfl) rfl rfl ?_
      exact e_call2 h (dAt D120 16 rfl) (hi0 rfl) rfl G21 (by decide) rfl (Nat.le_of_ble_eq_true rfl) (kV hOx0 rfl rfl) rfl rfl
    · replace h := h.2 c
      refine e_iconst (pc' := 10) (v := 1) (dAt D120 5 rfl) rfl (by decide) ?_
      refine e_goto (t := 26) (dAt D120 6 rfl) ⟨by decide, by decide⟩ ?_
      refine e_istore_n (pc' := 27) (dAt D120 14 rfl) rfl (Nat.le_of_ble_eq_true rfl) rfl ?_
      refine e_aload_n (pc' := 28) (dAt D120 15 rfl) rfl rfl ?_
      exact e_call2 h (dAt D120 16 rfl) (hi0 rfl) rfl G21 (by decide) rfl (Nat.le_of_ble_eq_true rfl) (kV hOx0 rfl rfl) rfl rfl
-- PlaceNets.event.(II)I, from 31
set_option maxRecDepth 20000 in
theorem bk120_31 {d b : Nat} {Q : Option Value → mMem → Prop} {m : mMem} {x0 : Nat} {x1 : Int32} {x2 : Int32} {x3 : Int32} {x4 : Option Value} {y0 : Int32} (hT : mWT m) (hOx0 : m.1 x0 = some (.inr 0) ∧ x0 ≠ 0)
    (h : (((y0 = 0) → (Q (some (.int ((-1)))) m)) ∧ (¬ (y0 = 0) → (((x1 < ((-1))) → (Q (some (.int ((-1)))) m)) ∧ (¬ (x1 < ((-1))) → (((¬ x3 = 0) → (mEv d 121 [.ref x0] m (fun r m' => mEs d 120 b g120 (49, [some (.ref x0), some (.int x1), some (.int x2), some (.int x3), x4], r.toList ++ [], m') Q))) ∧ (¬ (¬ x3 = 0) → (Q (some (.int ((-1)))) m)))))))) :
    mEs d 120 b g120 (31, [some (.ref x0), some (.int x1), some (.int x2), some (.int x3), x4], [.int y0], m) Q := by
  refine e_if_eq (t := 43) (pc' := 34) (dAt D120 17 rfl) ⟨by decide, by decide⟩ rfl (fun c => ?_) (fun c => ?_)
  · replace h := h.1 c
    refine e_iconst (pc' := 44) (v := (-1)) (dAt D120 23 rfl) rfl (by decide) ?_
    exact e_ireturn (dAt D120 24 rfl) rfl ⟨rfl, fun e => by cases e⟩ h
  · replace h := h.2 c
    refine e_iload_n (pc' := 35) (dAt D120 18 rfl) rfl rfl ?_
    refine e_iconst (pc' := 36) (v := (-1)) (dAt D120 19 rfl) rfl (by decide) ?_
    refine e_icmp_lt (t := 43) (pc' := 39) (dAt D120 20 rfl) ⟨by decide, by decide⟩ rfl (fun c => ?_) (fun c => ?_)
    · replace h := h.1 c
      refine e_iconst (pc' := 44) (v := (-1)) (dAt D120 23 rfl) rfl (by decide) ?_
      exact e_ireturn (dAt D120 24 rfl) rfl ⟨rfl, fun e => by cases e⟩ h
    · replace h := h.2 c
      refine e_iload_n (pc' := 40) (dAt D120 21 rfl) rfl rfl ?_
      refine e_if_ne (t := 45) (pc' := 43) (dAt D120 22 rfl) ⟨by decide, by decide⟩ rfl (fun c => ?_) (fun c => ?_)
      · replace h := h.1 c
        refine e_aload_n (pc' := 46) (dAt D120 25 rfl) rfl rfl ?_
        exact e_call2 h (dAt D120 26 rfl) (hi0 rfl) rfl G121 (by decide) rfl (Nat.le_of_ble_eq_true rfl) (kV hOx0 rfl rfl) rfl rfl
      · replace h := h.2 c
        refine e_iconst (pc' := 44) (v := (-1)) (dAt D120 23 rfl) rfl (by decide) ?_
        exact e_ireturn (dAt D120 24 rfl) rfl ⟨rfl, fun e => by cases e⟩ h
-- PlaceNets.event.(II)I, from 49
set_option maxRecDepth 20000 in
theorem bk120_49 {d b : Nat} {Q : Option Value → mMem → Prop} {m : mMem} {x0 : Nat} {x1 : Int32} {x2 : Int32} {x3 : Int32} {x4 : Option Value} {y0 : Nat} (hT : mWT m) (hOx0 : m.1 x0 = some (.inr 0) ∧ x0 ≠ 0) (hOy0 : m.1 y0 = some (.inr 7) ∧ y0 ≠ 0)
    (h : ((((iF m y0 3) = 0) → (((¬ x1 = ((-1))) → (mEv d 140 [.ref y0, .int x1, .int x2] m (fun r m' => mEs d 120 b g120 (82, [some (.ref x0), some (.int x1), some (.int x2), some (.int x3), some (.ref y0)], r.toList ++ [], m') Q))) ∧ (¬ (¬ x1 = ((-1))) → (mEs d 120 b g120 (82, [some (.ref x0), some (.int x1), some (.int x2), some (.int x3), some (.ref y0)], [.int (iF m y0 1)], m) Q)))) ∧ (¬ ((iF m y0 3) = 0) → (Q (some (.int ((-2)))) m)))) :
    mEs d 120 b g120 (49, [some (.ref x0), some (.int x1), some (.int x2), some (.int x3), x4], [.ref y0], m) Q := by
  refine e_astore (pc' := 51) (dAt D120 27 rfl) rfl (Nat.le_of_ble_eq_true rfl) rfl ?_
  refine e_aload (pc' := 53) (dAt D120 28 rfl) rfl rfl ?_
  refine e_getfield (pc' := 56) (dAt D120 29 rfl) rfl rfl hOy0 (hT.int hOy0 3 (by decide)) ?_
  refine e_if_eq (t := 62) (pc' := 59) (dAt D120 30 rfl) ⟨by decide, by decide⟩ rfl (fun c => ?_) (fun c => ?_)
  · replace h := h.1 c
    refine e_iload_n (pc' := 63) (dAt D120 33 rfl) rfl rfl ?_
    refine e_iconst (pc' := 64) (v := (-1)) (dAt D120 34 rfl) rfl (by decide) ?_
    refine e_icmp_ne (t := 75) (pc' := 67) (dAt D120 35 rfl) ⟨by decide, by decide⟩ rfl (fun c => ?_) (fun c => ?_)
    · replace h := h.1 c
      refine e_aload (pc' := 77) (dAt D120 39 rfl) rfl rfl ?_
      refine e_iload_n (pc' := 78) (dAt D120 40 rfl) rfl rfl ?_
      refine e_iload_n (pc' := 79) (dAt D120 41 rfl) rfl rfl ?_
      exact e_call2 h (dAt D120 42 rfl) (hi0 rfl) rfl G140 (by decide) rfl (Nat.le_of_ble_eq_true rfl) (kV hOy0 rfl rfl) rfl rfl
    · replace h := h.2 c
      refine e_aload (pc' := 69) (dAt D120 36 rfl) rfl rfl ?_
      refine e_getfield (pc' := 72) (dAt D120 37 rfl) rfl rfl hOy0 (hT.int hOy0 1 (by decide)) ?_
      refine e_goto (t := 82) (dAt D120 38 rfl) ⟨by decide, by decide⟩ ?_
      exact h
  · replace h := h.2 c
    refine e_bipush (pc' := 61) (v := (-2)) (dAt D120 31 rfl) rfl (by decide) ?_
    exact e_ireturn (dAt D120 32 rfl) rfl ⟨rfl, fun e => by cases e⟩ h
-- PlaceNets.event.(II)I, from 82
set_option maxRecDepth 20000 in
theorem bk120_82 {d b : Nat} {Q : Option Value → mMem → Prop} {m : mMem} {x0 : Nat} {x1 : Int32} {x2 : Int32} {x3 : Int32} {x4 : Nat} {y0 : Int32} (hT : mWT m) (hOx0 : m.1 x0 = some (.inr 0) ∧ x0 ≠ 0) (hOx4 : m.1 x4 = some (.inr 7) ∧ x4 ≠ 0)
    (h : Q (some (.int y0)) m) :
    mEs d 120 b g120 (82, [some (.ref x0), some (.int x1), some (.int x2), some (.int x3), some (.ref x4)], [.int y0], m) Q := by
  exact e_ireturn (dAt D120 43 rfl) rfl ⟨rfl, fun e => by cases e⟩ h
-- PlaceNets.condition.(II)I, from 0
set_option maxRecDepth 20000 in
theorem bk141_0 {d b : Nat} {Q : Option Value → mMem → Prop} {m : mMem} {x0 : Nat} {x1 : Int32} {x2 : Int32} {x3 : Option Value} {x4 : Option Value} (hT : mWT m) (hOx0 : m.1 x0 = some (.inr 0) ∧ x0 ≠ 0)
    (h : (((¬ x1 = ((-1))) → (((x2 = 0) → (mEv d 21 [.ref x0] m (fun r m' => mEs d 141 b g141 (36, [some (.ref x0), some (.int x1), some (.int x2), some (.int 1), x4], r.toList ++ [], m') Q))) ∧ (¬ (x2 = 0) → (((¬ x2 = 1) → (mEv d 21 [.ref x0] m (fun r m' => mEs d 141 b g141 (36, [some (.ref x0), some (.int x1), some (.int x2), some (.int 0), x4], r.toList ++ [], m') Q))) ∧ (¬ (¬ x2 = 1) → (mEv d 21 [.ref x0] m (fun r m' => mEs d 141 b g141 (36, [some (.ref x0), some (.int x1), some (.int x2), some (.int 1), x4], r.toList ++ [], m') Q))))))) ∧ (¬ (¬ x1 = ((-1))) → (((¬ x2 = 0) → (mEv d 21 [.ref x0] m (fun r m' => mEs d 141 b g141 (36, [some (.ref x0), some (.int x1), some (.int x2), some (.int 0), x4], r.toList ++ [], m') Q))) ∧ (¬ (¬ x2 = 0) → (mEv d 21 [.ref x0] m (fun r m' => mEs d 141 b g141 (36, [some (.ref x0), some (.int x1), some (.int x2), some (.int 1), x4], r.toList ++ [], m') Q))))))) :
    mEs d 141 b g141 (0, [some (.ref x0), some (.int x1), some (.int x2), x3, x4], [], m) Q := by
  refine e_iload_n (pc' := 1) (dAt D141 0 rfl) rfl rfl ?_
  refine e_iconst (pc' := 2) (v := (-1)) (dAt D141 1 rfl) rfl (by decide) ?_
  refine e_icmp_ne (t := 17) (pc' := 5) (dAt D141 2 rfl) ⟨by decide, by decide⟩ rfl (fun c => ?_) (fun c => ?_)
  · replace h := h.1 c
    refine e_iload_n (pc' := 18) (dAt D141 9 rfl) rfl rfl ?_
    refine e_if_eq (t := 26) (pc' := 21) (dAt D141 10 rfl) ⟨by decide, by decide⟩ rfl (fun c => ?_) (fun c => ?_)
    · replace h := h.1 c
      refine e_iconst (pc' := 27) (v := 1) (dAt D141 14 rfl) rfl (by decide) ?_
      refine e_goto (t := 31) (dAt D141 15 rfl) ⟨by decide, by decide⟩ ?_
      refine e_istore_n (pc' := 32) (dAt D141 17 rfl) rfl (Nat.le_of_ble_eq_true rfl) rfl ?_
      refine e_aload_n (pc' := 33) (dAt D141 18 rfl) rfl rfl ?_
      exact e_call2 h (dAt D141 19 rfl) (hi0 rfl) rfl G21 (by decide) rfl (Nat.le_of_ble_eq_true rfl) (kV hOx0 rfl rfl) rfl rfl
    · replace h := h.2 c
      refine e_iload_n (pc' := 22) (dAt D141 11 rfl) rfl rfl ?_
      refine e_iconst (pc' := 23) (v := 1) (dAt D141 12 rfl) rfl (by decide) ?_
      refine e_icmp_ne (t := 30) (pc' := 26) (dAt D141 13 rfl) ⟨by decide, by decide⟩ rfl (fun c => ?_) (fun c => ?_)
      · replace h := h.1 c
        refine e_iconst (pc' := 31) (v := 0) (dAt D141 16 rfl) rfl (by decide) ?_
        refine e_istore_n (pc' := 32) (dAt D141 17 rfl) rfl (Nat.le_of_ble_eq_true rfl) rfl ?_
        refine e_aload_n (pc' := 33) (dAt D141 18 rfl) rfl rfl ?_
        exact e_call2 h (dAt D141 19 rfl) (hi0 rfl) rfl G21 (by decide) rfl (Nat.le_of_ble_eq_true rfl) (kV hOx0 rfl rfl) rfl rfl
      · replace h := h.2 c
        refine e_iconst (pc' := 27) (v := 1) (dAt D141 14 rfl) rfl (by decide) ?_
        refine e_goto (t := 31) (dAt D141 15 rfl) ⟨by decide, by decide⟩ ?_
        refine e_istore_n (pc' := 32) (dAt D141 17 rfl) rfl (Nat.le_of_ble_eq_true rfl) rfl ?_
        refine e_aload_n (pc' := 33) (dAt D141 18 rfl) rfl rfl ?_
        exact e_call2 h (dAt D141 19 rfl) (hi0 rfl) rfl G21 (by decide) rfl (Nat.le_of_ble_eq_true rfl) (kV hOx0 rfl rfl) rfl rfl
  · replace h := h.2 c
    refine e_iload_n (pc' := 6) (dAt D141 3 rfl) rfl rfl ?_
    refine e_if_ne (t := 13) (pc' := 9) (dAt D141 4 rfl) ⟨by decide, by decide⟩ rfl (fun c => ?_) (fun c => ?_)
    · replace h := h.1 c
      refine e_iconst (pc' := 14) (v := 0) (dAt D141 7 rfl) rfl (by decide) ?_
      refine e_goto (t := 31) (dAt D141 8 rfl) ⟨by decide, by decide⟩ ?_
      refine e_istore_n (pc' := 32) (dAt D141 17 rfl) rfl (Nat.le_of_ble_eq_true rfl) rfl ?_
      refine e_aload_n (pc' := 33) (dAt D141 18 rfl) rfl rfl ?_
      exact e_call2 h (dAt D141 19 rfl) (hi0 rfl) rfl G21 (by decide) rfl (Nat.le_of_ble_eq_true rfl) (kV hOx0 rfl rfl) rfl rfl
    · replace h := h.2 c
      refine e_iconst (pc' := 10) (v := 1) (dAt D141 5 rfl) rfl (by decide) ?_
      refine e_goto (t := 31) (dAt D141 6 rfl) ⟨by decide, by decide⟩ ?_
      refine e_istore_n (pc' := 32) (dAt D141 17 rfl) rfl (Nat.le_of_ble_eq_true rfl) rfl ?_
      refine e_aload_n (pc' := 33) (dAt D141 18 rfl) rfl rfl ?_
      exact e_call2 h (dAt D141 19 rfl) (hi0 rfl) rfl G21 (by decide) rfl (Nat.le_of_ble_eq_true rfl) (kV hOx0 rfl rfl) rfl rfl
-- PlaceNets.condition.(II)I, from 36
set_option maxRecDepth 20000 in
theorem bk141_36 {d b : Nat} {Q : Option Value → mMem → Prop} {m : mMem} {x0 : Nat} {x1 : Int32} {x2 : Int32} {x3 : Int32} {x4 : Option Value} {y0 : Int32} (hT : mWT m) (hOx0 : m.1 x0 = some (.inr 0) ∧ x0 ≠ 0)
    (h : (((y0 = 0) → (Q (some (.int ((-1)))) m)) ∧ (¬ (y0 = 0) → (((x1 < ((-1))) → (Q (some (.int ((-1)))) m)) ∧ (¬ (x1 < ((-1))) → (((¬ x3 = 0) → (mEv d 121 [.ref x0] m (fun r m' => mEs d 141 b g141 (54, [some (.ref x0), some (.int x1), some (.int x2), some (.int x3), x4], r.toList ++ [], m') Q))) ∧ (¬ (¬ x3 = 0) → (Q (some (.int ((-1)))) m)))))))) :
    mEs d 141 b g141 (36, [some (.ref x0), some (.int x1), some (.int x2), some (.int x3), x4], [.int y0], m) Q := by
  refine e_if_eq (t := 48) (pc' := 39) (dAt D141 20 rfl) ⟨by decide, by decide⟩ rfl (fun c => ?_) (fun c => ?_)
  · replace h := h.1 c
    refine e_iconst (pc' := 49) (v := (-1)) (dAt D141 26 rfl) rfl (by decide) ?_
    exact e_ireturn (dAt D141 27 rfl) rfl ⟨rfl, fun e => by cases e⟩ h
  · replace h := h.2 c
    refine e_iload_n (pc' := 40) (dAt D141 21 rfl) rfl rfl ?_
    refine e_iconst (pc' := 41) (v := (-1)) (dAt D141 22 rfl) rfl (by decide) ?_
    refine e_icmp_lt (t := 48) (pc' := 44) (dAt D141 23 rfl) ⟨by decide, by decide⟩ rfl (fun c => ?_) (fun c => ?_)
    · replace h := h.1 c
      refine e_iconst (pc' := 49) (v := (-1)) (dAt D141 26 rfl) rfl (by decide) ?_
      exact e_ireturn (dAt D141 27 rfl) rfl ⟨rfl, fun e => by cases e⟩ h
    · replace h := h.2 c
      refine e_iload_n (pc' := 45) (dAt D141 24 rfl) rfl rfl ?_
      refine e_if_ne (t := 50) (pc' := 48) (dAt D141 25 rfl) ⟨by decide, by decide⟩ rfl (fun c => ?_) (fun c => ?_)
      · replace h := h.1 c
        refine e_aload_n (pc' := 51) (dAt D141 28 rfl) rfl rfl ?_
        exact e_call2 h (dAt D141 29 rfl) (hi0 rfl) rfl G121 (by decide) rfl (Nat.le_of_ble_eq_true rfl) (kV hOx0 rfl rfl) rfl rfl
      · replace h := h.2 c
        refine e_iconst (pc' := 49) (v := (-1)) (dAt D141 26 rfl) rfl (by decide) ?_
        exact e_ireturn (dAt D141 27 rfl) rfl ⟨rfl, fun e => by cases e⟩ h
-- PlaceNets.condition.(II)I, from 54
set_option maxRecDepth 20000 in
theorem bk141_54 {d b : Nat} {Q : Option Value → mMem → Prop} {m : mMem} {x0 : Nat} {x1 : Int32} {x2 : Int32} {x3 : Int32} {x4 : Option Value} {y0 : Nat} (hT : mWT m) (hOx0 : m.1 x0 = some (.inr 0) ∧ x0 ≠ 0) (hOy0 : m.1 y0 = some (.inr 7) ∧ y0 ≠ 0)
    (h : ((((iF m y0 3) = 0) → (((¬ x1 = ((-1))) → (mEv d 142 [.ref y0, .int x1, .int x2] m (fun r m' => mEs d 141 b g141 (87, [some (.ref x0), some (.int x1), some (.int x2), some (.int x3), some (.ref y0)], r.toList ++ [], m') Q))) ∧ (¬ (¬ x1 = ((-1))) → (mEs d 141 b g141 (87, [some (.ref x0), some (.int x1), some (.int x2), some (.int x3), some (.ref y0)], [.int (iF m y0 2)], m) Q)))) ∧ (¬ ((iF m y0 3) = 0) → (Q (some (.int ((-2)))) m)))) :
    mEs d 141 b g141 (54, [some (.ref x0), some (.int x1), some (.int x2), some (.int x3), x4], [.ref y0], m) Q := by
  refine e_astore (pc' := 56) (dAt D141 30 rfl) rfl (Nat.le_of_ble_eq_true rfl) rfl ?_
  refine e_aload (pc' := 58) (dAt D141 31 rfl) rfl rfl ?_
  refine e_getfield (pc' := 61) (dAt D141 32 rfl) rfl rfl hOy0 (hT.int hOy0 3 (by decide)) ?_
  refine e_if_eq (t := 67) (pc' := 64) (dAt D141 33 rfl) ⟨by decide, by decide⟩ rfl (fun c => ?_) (fun c => ?_)
  · replace h := h.1 c
    refine e_iload_n (pc' := 68) (dAt D141 36 rfl) rfl rfl ?_
    refine e_iconst (pc' := 69) (v := (-1)) (dAt D141 37 rfl) rfl (by decide) ?_
    refine e_icmp_ne (t := 80) (pc' := 72) (dAt D141 38 rfl) ⟨by decide, by decide⟩ rfl (fun c => ?_) (fun c => ?_)
    · replace h := h.1 c
      refine e_aload (pc' := 82) (dAt D141 42 rfl) rfl rfl ?_
      refine e_iload_n (pc' := 83) (dAt D141 43 rfl) rfl rfl ?_
      refine e_iload_n (pc' := 84) (dAt D141 44 rfl) rfl rfl ?_
      exact e_call2 h (dAt D141 45 rfl) (hi0 rfl) rfl G142 (by decide) rfl (Nat.le_of_ble_eq_true rfl) (kV hOy0 rfl rfl) rfl rfl
    · replace h := h.2 c
      refine e_aload (pc' := 74) (dAt D141 39 rfl) rfl rfl ?_
      refine e_getfield (pc' := 77) (dAt D141 40 rfl) rfl rfl hOy0 (hT.int hOy0 2 (by decide)) ?_
      refine e_goto (t := 87) (dAt D141 41 rfl) ⟨by decide, by decide⟩ ?_
      exact h
  · replace h := h.2 c
    refine e_bipush (pc' := 66) (v := (-2)) (dAt D141 34 rfl) rfl (by decide) ?_
    exact e_ireturn (dAt D141 35 rfl) rfl ⟨rfl, fun e => by cases e⟩ h
-- PlaceNets.condition.(II)I, from 87
set_option maxRecDepth 20000 in
theorem bk141_87 {d b : Nat} {Q : Option Value → mMem → Prop} {m : mMem} {x0 : Nat} {x1 : Int32} {x2 : Int32} {x3 : Int32} {x4 : Nat} {y0 : Int32} (hT : mWT m) (hOx0 : m.1 x0 = some (.inr 0) ∧ x0 ≠ 0) (hOx4 : m.1 x4 = some (.inr 7) ∧ x4 ≠ 0)
    (h : Q (some (.int y0)) m) :
    mEs d 141 b g141 (87, [some (.ref x0), some (.int x1), some (.int x2), some (.int x3), some (.ref x4)], [.int y0], m) Q := by
  exact e_ireturn (dAt D141 46 rfl) rfl ⟨rfl, fun e => by cases e⟩ h
-- PlaceNets.atOnce.(II)I, from 0
set_option maxRecDepth 20000 in
theorem bk143_0 {d b : Nat} {Q : Option Value → mMem → Prop} {m : mMem} {x0 : Nat} {x1 : Int32} {x2 : Int32} {x3 : Option Value} (hT : mWT m) (hOx0 : m.1 x0 = some (.inr 0) ∧ x0 ≠ 0)
    (h : mEv d 21 [.ref x0] m (fun r m' => mEs d 143 b g143 (4, [some (.ref x0), some (.int x1), some (.int x2), x3], r.toList ++ [], m') Q)) :
    mEs d 143 b g143 (0, [some (.ref x0), some (.int x1), some (.int x2), x3], [], m) Q := by
  refine e_aload_n (pc' := 1) (dAt D143 0 rfl) rfl rfl ?_
  exact e_call2 h (dAt D143 1 rfl) (hi0 rfl) rfl G21 (by decide) rfl (Nat.le_of_ble_eq_true rfl) (kV hOx0 rfl rfl) rfl rfl
-- PlaceNets.atOnce.(II)I, from 4
set_option maxRecDepth 20000 in
theorem bk143_4 {d b : Nat} {Q : Option Value → mMem → Prop} {m : mMem} {x0 : Nat} {x1 : Int32} {x2 : Int32} {x3 : Option Value} {y0 : Int32} (hT : mWT m) (hOx0 : m.1 x0 = some (.inr 0) ∧ x0 ≠ 0)
    (h : (((y0 = 0) → (Q (some (.int ((-1)))) m)) ∧ (¬ (y0 = 0) → (((x1 < 0) → (Q (some (.int ((-1)))) m)) ∧ (¬ (x1 < 0) → (((0 ≤ x2) → (mEv d 121 [.ref x0] m (fun r m' => mEs d 143 b g143 (21, [some (.ref x0), some (.int x1), some (.int x2), x3], r.toList ++ [], m') Q))) ∧ (¬ (0 ≤ x2) → (Q (some (.int ((-1)))) m)))))))) :
    mEs d 143 b g143 (4, [some (.ref x0), some (.int x1), some (.int x2), x3], [.int y0], m) Q := by
  refine e_if_eq (t := 15) (pc' := 7) (dAt D143 2 rfl) ⟨by decide, by decide⟩ rfl (fun c => ?_) (fun c => ?_)
  · replace h := h.1 c
    refine e_iconst (pc' := 16) (v := (-1)) (dAt D143 7 rfl) rfl (by decide) ?_
    exact e_ireturn (dAt D143 8 rfl) rfl ⟨rfl, fun e => by cases e⟩ h
  · replace h := h.2 c
    refine e_iload_n (pc' := 8) (dAt D143 3 rfl) rfl rfl ?_
    refine e_if_lt (t := 15) (pc' := 11) (dAt D143 4 rfl) ⟨by decide, by decide⟩ rfl (fun c => ?_) (fun c => ?_)
    · replace h := h.1 c
      refine e_iconst (pc' := 16) (v := (-1)) (dAt D143 7 rfl) rfl (by decide) ?_
      exact e_ireturn (dAt D143 8 rfl) rfl ⟨rfl, fun e => by cases e⟩ h
    · replace h := h.2 c
      refine e_iload_n (pc' := 12) (dAt D143 5 rfl) rfl rfl ?_
      refine e_if_ge (t := 17) (pc' := 15) (dAt D143 6 rfl) ⟨by decide, by decide⟩ rfl (fun c => ?_) (fun c => ?_)
      · replace h := h.1 c
        refine e_aload_n (pc' := 18) (dAt D143 9 rfl) rfl rfl ?_
        exact e_call2 h (dAt D143 10 rfl) (hi0 rfl) rfl G121 (by decide) rfl (Nat.le_of_ble_eq_true rfl) (kV hOx0 rfl rfl) rfl rfl
      · replace h := h.2 c
        refine e_iconst (pc' := 16) (v := (-1)) (dAt D143 7 rfl) rfl (by decide) ?_
        exact e_ireturn (dAt D143 8 rfl) rfl ⟨rfl, fun e => by cases e⟩ h
-- PlaceNets.atOnce.(II)I, from 21
set_option maxRecDepth 20000 in
theorem bk143_21 {d b : Nat} {Q : Option Value → mMem → Prop} {m : mMem} {x0 : Nat} {x1 : Int32} {x2 : Int32} {x3 : Option Value} {y0 : Nat} (hT : mWT m) (hOx0 : m.1 x0 = some (.inr 0) ∧ x0 ≠ 0) (hOy0 : m.1 y0 = some (.inr 7) ∧ y0 ≠ 0)
    (h : ((((iF m y0 3) = 0) → ((((iF m y0 2) ≤ x1) → (Q (some (.int ((-1)))) m)) ∧ (¬ ((iF m y0 2) ≤ x1) → (((x2 < (iF m y0 2)) → (mEv d 139 [.ref y0, .int x1, .int x2] m (fun r m' => mEs d 143 b g143 (56, [some (.ref x0), some (.int x1), some (.int x2), some (.ref y0)], r.toList ++ [], m') Q))) ∧ (¬ (x2 < (iF m y0 2)) → (Q (some (.int ((-1)))) m)))))) ∧ (¬ ((iF m y0 3) = 0) → (Q (some (.int ((-2)))) m)))) :
    mEs d 143 b g143 (21, [some (.ref x0), some (.int x1), some (.int x2), x3], [.ref y0], m) Q := by
  refine e_astore_n (pc' := 22) (dAt D143 11 rfl) rfl (Nat.le_of_ble_eq_true rfl) rfl ?_
  refine e_aload_n (pc' := 23) (dAt D143 12 rfl) rfl rfl ?_
  refine e_getfield (pc' := 26) (dAt D143 13 rfl) rfl rfl hOy0 (hT.int hOy0 3 (by decide)) ?_
  refine e_if_eq (t := 32) (pc' := 29) (dAt D143 14 rfl) ⟨by decide, by decide⟩ rfl (fun c => ?_) (fun c => ?_)
  · replace h := h.1 c
    refine e_iload_n (pc' := 33) (dAt D143 17 rfl) rfl rfl ?_
    refine e_aload_n (pc' := 34) (dAt D143 18 rfl) rfl rfl ?_
    refine e_getfield (pc' := 37) (dAt D143 19 rfl) rfl rfl hOy0 (hT.int hOy0 2 (by decide)) ?_
    refine e_icmp_ge (t := 48) (pc' := 40) (dAt D143 20 rfl) ⟨by decide, by decide⟩ rfl (fun c => ?_) (fun c => ?_)
    · replace h := h.1 c
      refine e_iconst (pc' := 49) (v := (-1)) (dAt D143 25 rfl) rfl (by decide) ?_
      exact e_ireturn (dAt D143 26 rfl) rfl ⟨rfl, fun e => by cases e⟩ h
    · replace h := h.2 c
      refine e_iload_n (pc' := 41) (dAt D143 21 rfl) rfl rfl ?_
      refine e_aload_n (pc' := 42) (dAt D143 22 rfl) rfl rfl ?_
      refine e_getfield (pc' := 45) (dAt D143 23 rfl) rfl rfl hOy0 (hT.int hOy0 2 (by decide)) ?_
      refine e_icmp_lt (t := 50) (pc' := 48) (dAt D143 24 rfl) ⟨by decide, by decide⟩ rfl (fun c => ?_) (fun c => ?_)
      · replace h := h.1 c
        refine e_aload_n (pc' := 51) (dAt D143 27 rfl) rfl rfl ?_
        refine e_iload_n (pc' := 52) (dAt D143 28 rfl) rfl rfl ?_
        refine e_iload_n (pc' := 53) (dAt D143 29 rfl) rfl rfl ?_
        exact e_call2 h (dAt D143 30 rfl) (hi0 rfl) rfl G139 (by decide) rfl (Nat.le_of_ble_eq_true rfl) (kV hOy0 rfl rfl) rfl rfl
      · replace h := h.2 c
        refine e_iconst (pc' := 49) (v := (-1)) (dAt D143 25 rfl) rfl (by decide) ?_
        exact e_ireturn (dAt D143 26 rfl) rfl ⟨rfl, fun e => by cases e⟩ h
  · replace h := h.2 c
    refine e_bipush (pc' := 31) (v := (-2)) (dAt D143 15 rfl) rfl (by decide) ?_
    exact e_ireturn (dAt D143 16 rfl) rfl ⟨rfl, fun e => by cases e⟩ h
-- PlaceNets.atOnce.(II)I, from 56
set_option maxRecDepth 20000 in
theorem bk143_56 {d b : Nat} {Q : Option Value → mMem → Prop} {m : mMem} {x0 : Nat} {x1 : Int32} {x2 : Int32} {x3 : Nat} {y0 : Int32} (hT : mWT m) (hOx0 : m.1 x0 = some (.inr 0) ∧ x0 ≠ 0) (hOx3 : m.1 x3 = some (.inr 7) ∧ x3 ≠ 0)
    (h : (((y0 = 0) → (Q (some (.int 0)) m)) ∧ (¬ (y0 = 0) → (Q (some (.int 1)) m)))) :
    mEs d 143 b g143 (56, [some (.ref x0), some (.int x1), some (.int x2), some (.ref x3)], [.int y0], m) Q := by
  refine e_if_eq (t := 63) (pc' := 59) (dAt D143 31 rfl) ⟨by decide, by decide⟩ rfl (fun c => ?_) (fun c => ?_)
  · replace h := h.1 c
    refine e_iconst (pc' := 64) (v := 0) (dAt D143 34 rfl) rfl (by decide) ?_
    exact e_ireturn (dAt D143 35 rfl) rfl ⟨rfl, fun e => by cases e⟩ h
  · replace h := h.2 c
    refine e_iconst (pc' := 60) (v := 1) (dAt D143 32 rfl) rfl (by decide) ?_
    refine e_goto (t := 64) (dAt D143 33 rfl) ⟨by decide, by decide⟩ ?_
    exact e_ireturn (dAt D143 35 rfl) rfl ⟨rfl, fun e => by cases e⟩ h
-- PlaceNets.leaves.(II)I, from 0
set_option maxRecDepth 20000 in
theorem bk144_0 {d b : Nat} {Q : Option Value → mMem → Prop} {m : mMem} {x0 : Nat} {x1 : Int32} {x2 : Int32} {x3 : Option Value} (hT : mWT m) (hOx0 : m.1 x0 = some (.inr 0) ∧ x0 ≠ 0)
    (h : ∃ (r_1 : Nat), (m.2.1 x0 1 = .ref r_1) ∧ ((m.1 r_1 = some (.inr 2) ∧ r_1 ≠ 0) ∧ (mEv d 19 [.ref r_1, .int x2] m (fun r m' => mEs d 144 b g144 (8, [some (.ref x0), some (.int x1), some (.int x2), x3], r.toList ++ [], m') Q)))) :
    mEs d 144 b g144 (0, [some (.ref x0), some (.int x1), some (.int x2), x3], [], m) Q := by
  refine e_aload_n (pc' := 1) (dAt D144 0 rfl) rfl rfl ?_
  obtain ⟨r_1, f1, f_2, h⟩ := h
  refine e_getfield (pc' := 4) (dAt D144 1 rfl) rfl rfl hOx0 f1 ?_
  refine e_iload_n (pc' := 5) (dAt D144 2 rfl) rfl rfl ?_
  exact e_call2 h (dAt D144 3 rfl) (hi0 rfl) rfl G19 (by decide) rfl (Nat.le_of_ble_eq_true rfl) (kV f_2 rfl rfl) rfl rfl
-- PlaceNets.leaves.(II)I, from 8
set_option maxRecDepth 20000 in
theorem bk144_8 {d b : Nat} {Q : Option Value → mMem → Prop} {m : mMem} {x0 : Nat} {x1 : Int32} {x2 : Int32} {x3 : Option Value} {y0 : Int32} (hT : mWT m) (hOx0 : m.1 x0 = some (.inr 0) ∧ x0 ≠ 0)
    (h : (((y0 = 0) → (Q (some (.int ((-1)))) m)) ∧ (¬ (y0 = 0) → (((0 ≤ x1) → (mEv d 121 [.ref x0] m (fun r m' => mEs d 144 b g144 (21, [some (.ref x0), some (.int x1), some (.int x2), x3], r.toList ++ [], m') Q))) ∧ (¬ (0 ≤ x1) → (Q (some (.int ((-1)))) m)))))) :
    mEs d 144 b g144 (8, [some (.ref x0), some (.int x1), some (.int x2), x3], [.int y0], m) Q := by
  refine e_if_eq (t := 15) (pc' := 11) (dAt D144 4 rfl) ⟨by decide, by decide⟩ rfl (fun c => ?_) (fun c => ?_)
  · replace h := h.1 c
    refine e_iconst (pc' := 16) (v := (-1)) (dAt D144 7 rfl) rfl (by decide) ?_
    exact e_ireturn (dAt D144 8 rfl) rfl ⟨rfl, fun e => by cases e⟩ h
  · replace h := h.2 c
    refine e_iload_n (pc' := 12) (dAt D144 5 rfl) rfl rfl ?_
    refine e_if_ge (t := 17) (pc' := 15) (dAt D144 6 rfl) ⟨by decide, by decide⟩ rfl (fun c => ?_) (fun c => ?_)
    · replace h := h.1 c
      refine e_aload_n (pc' := 18) (dAt D144 9 rfl) rfl rfl ?_
      exact e_call2 h (dAt D144 10 rfl) (hi0 rfl) rfl G121 (by decide) rfl (Nat.le_of_ble_eq_true rfl) (kV hOx0 rfl rfl) rfl rfl
    · replace h := h.2 c
      refine e_iconst (pc' := 16) (v := (-1)) (dAt D144 7 rfl) rfl (by decide) ?_
      exact e_ireturn (dAt D144 8 rfl) rfl ⟨rfl, fun e => by cases e⟩ h
-- PlaceNets.leaves.(II)I, from 21
set_option maxRecDepth 20000 in
theorem bk144_21 {d b : Nat} {Q : Option Value → mMem → Prop} {m : mMem} {x0 : Nat} {x1 : Int32} {x2 : Int32} {x3 : Option Value} {y0 : Nat} (hT : mWT m) (hOx0 : m.1 x0 = some (.inr 0) ∧ x0 ≠ 0) (hOy0 : m.1 y0 = some (.inr 7) ∧ y0 ≠ 0)
    (h : ((((iF m y0 3) = 0) → ((((iF m y0 1) ≤ x1) → (Q (some (.int ((-1)))) m)) ∧ (¬ ((iF m y0 1) ≤ x1) → ((mIn ((x1 * 10) + x2) 300 = true) ∧ (Q (some (.int (m.2.2.1 (64 * y0 + 1) ((x1 * 10) + x2).toNatClampNeg))) m))))) ∧ (¬ ((iF m y0 3) = 0) → (Q (some (.int ((-2)))) m)))) :
    mEs d 144 b g144 (21, [some (.ref x0), some (.int x1), some (.int x2), x3], [.ref y0], m) Q := by
  refine e_astore_n (pc' := 22) (dAt D144 11 rfl) rfl (Nat.le_of_ble_eq_true rfl) rfl ?_
  refine e_aload_n (pc' := 23) (dAt D144 12 rfl) rfl rfl ?_
  refine e_getfield (pc' := 26) (dAt D144 13 rfl) rfl rfl hOy0 (hT.int hOy0 3 (by decide)) ?_
  refine e_if_eq (t := 32) (pc' := 29) (dAt D144 14 rfl) ⟨by decide, by decide⟩ rfl (fun c => ?_) (fun c => ?_)
  · replace h := h.1 c
    refine e_iload_n (pc' := 33) (dAt D144 17 rfl) rfl rfl ?_
    refine e_aload_n (pc' := 34) (dAt D144 18 rfl) rfl rfl ?_
    refine e_getfield (pc' := 37) (dAt D144 19 rfl) rfl rfl hOy0 (hT.int hOy0 1 (by decide)) ?_
    refine e_icmp_ge (t := 54) (pc' := 40) (dAt D144 20 rfl) ⟨by decide, by decide⟩ rfl (fun c => ?_) (fun c => ?_)
    · replace h := h.1 c
      refine e_iconst (pc' := 55) (v := (-1)) (dAt D144 30 rfl) rfl (by decide) ?_
      exact e_ireturn (dAt D144 31 rfl) rfl ⟨rfl, fun e => by cases e⟩ h
    · replace h := h.2 c
      refine e_aload_n (pc' := 41) (dAt D144 21 rfl) rfl rfl ?_
      refine e_getfield (pc' := 44) (dAt D144 22 rfl) rfl rfl hOy0 (hT.own hOy0 0 rfl) ?_
      refine e_iload_n (pc' := 45) (dAt D144 23 rfl) rfl rfl ?_
      refine e_bipush (pc' := 47) (v := 10) (dAt D144 24 rfl) rfl (by decide) ?_
      refine e_imul (pc' := 48) (dAt D144 25 rfl) rfl ?_
      refine e_iload_n (pc' := 49) (dAt D144 26 rfl) rfl rfl ?_
      refine e_iadd (pc' := 50) (dAt D144 27 rfl) rfl ?_
      obtain ⟨f1, h⟩ := h
      refine e_iaload (pc' := 51) (dAt D144 28 rfl) rfl (hT.arr hOy0 0 rfl (by decide)).1 (Or.inl (hT.arr hOy0 0 rfl (by decide)).2) f1 rfl ?_
      refine e_goto (t := 55) (dAt D144 29 rfl) ⟨by decide, by decide⟩ ?_
      exact e_ireturn (dAt D144 31 rfl) rfl ⟨rfl, fun e => by cases e⟩ h
  · replace h := h.2 c
    refine e_bipush (pc' := 31) (v := (-2)) (dAt D144 15 rfl) rfl (by decide) ?_
    exact e_ireturn (dAt D144 16 rfl) rfl ⟨rfl, fun e => by cases e⟩ h
-- PlaceNets.count.(I)I, from 0
set_option maxRecDepth 20000 in
theorem bk145_0 {d b : Nat} {Q : Option Value → mMem → Prop} {m : mMem} {x0 : Nat} {x1 : Int32} (hT : mWT m) (hOx0 : m.1 x0 = some (.inr 0) ∧ x0 ≠ 0)
    (h : ((x1 = 0 → (∃ (r_1 : Nat), (m.2.1 x0 1 = .ref r_1) ∧ ((m.1 r_1 = some (.inr 2) ∧ r_1 ≠ 0) ∧ (Q (some (.int (iF m r_1 0))) m)))) ∧ (¬ x1 = 0 → ((x1 = 1 → (∃ (r_3 : Nat), (m.2.1 x0 1 = .ref r_3) ∧ ((m.1 r_3 = some (.inr 2) ∧ r_3 ≠ 0) ∧ (Q (some (.int (iF m r_3 1))) m)))) ∧ (¬ x1 = 1 → ((x1 = 2 → (mEv d 35 [.ref x0] m (fun r m' => mEs d 145 b g145 (56, [some (.ref x0), some (.int x1)], r.toList ++ [], m') Q))) ∧ (¬ x1 = 2 → ((x1 = 3 → (∃ (r_5 : Nat), (m.2.1 x0 0 = .ref r_5) ∧ ((m.1 r_5 = some (.inr 1) ∧ r_5 ≠ 0) ∧ (Q (some (.int (iF m r_5 0))) m)))) ∧ (¬ x1 = 3 → ((x1 = 4 → (Q (some (.int (iF m x0 6))) m)) ∧ (¬ x1 = 4 → (Q (some (.int ((-1)))) m)))))))))))) :
    mEs d 145 b g145 (0, [some (.ref x0), some (.int x1)], [], m) Q := by
  refine e_iload_n (pc' := 1) (dAt D145 0 rfl) rfl rfl ?_
  refine vc_if h (fun c0 h => ?_) (fun c0 h => ?_)
  · refine e_tableswitch (off := 35) (t := 36) (dAt D145 1 rfl) (by rw [c0]; rfl) ⟨by decide, by decide⟩ ?_
    refine e_aload_n (pc' := 37) (dAt D145 2 rfl) rfl rfl ?_
    obtain ⟨r_1, f1, f_2, h⟩ := h
    refine e_getfield (pc' := 40) (dAt D145 3 rfl) rfl rfl hOx0 f1 ?_
    refine e_getfield (pc' := 43) (dAt D145 4 rfl) rfl rfl f_2 (hT.int f_2 0 (by decide)) ?_
    exact e_ireturn (dAt D145 5 rfl) rfl ⟨rfl, fun e => by cases e⟩ h
  · skip
    refine vc_if h (fun c1 h => ?_) (fun c1 h => ?_)
    · refine e_tableswitch (off := 43) (t := 44) (dAt D145 1 rfl) (by rw [c1]; rfl) ⟨by decide, by decide⟩ ?_
      refine e_aload_n (pc' := 45) (dAt D145 6 rfl) rfl rfl ?_
      obtain ⟨r_3, f1, f_4, h⟩ := h
      refine e_getfield (pc' := 48) (dAt D145 7 rfl) rfl rfl hOx0 f1 ?_
      refine e_getfield (pc' := 51) (dAt D145 8 rfl) rfl rfl f_4 (hT.int f_4 1 (by decide)) ?_
      exact e_ireturn (dAt D145 9 rfl) rfl ⟨rfl, fun e => by cases e⟩ h
    · skip
      refine vc_if h (fun c2 h => ?_) (fun c2 h => ?_)
      · refine e_tableswitch (off := 51) (t := 52) (dAt D145 1 rfl) (by rw [c2]; rfl) ⟨by decide, by decide⟩ ?_
        refine e_aload_n (pc' := 53) (dAt D145 10 rfl) rfl rfl ?_
        exact e_call2 h (dAt D145 11 rfl) (hi0 rfl) rfl G35 (by decide) rfl (Nat.le_of_ble_eq_true rfl) (kV hOx0 rfl rfl) rfl rfl
      · skip
        refine vc_if h (fun c3 h => ?_) (fun c3 h => ?_)
        · refine e_tableswitch (off := 56) (t := 57) (dAt D145 1 rfl) (by rw [c3]; rfl) ⟨by decide, by decide⟩ ?_
          refine e_aload_n (pc' := 58) (dAt D145 13 rfl) rfl rfl ?_
          obtain ⟨r_5, f1, f_6, h⟩ := h
          refine e_getfield (pc' := 61) (dAt D145 14 rfl) rfl rfl hOx0 f1 ?_
          refine e_getfield (pc' := 64) (dAt D145 15 rfl) rfl rfl f_6 (hT.int f_6 0 (by decide)) ?_
          exact e_ireturn (dAt D145 16 rfl) rfl ⟨rfl, fun e => by cases e⟩ h
        · skip
          refine vc_if h (fun c4 h => ?_) (fun c4 h => ?_)
          · refine e_tableswitch (off := 64) (t := 65) (dAt D145 1 rfl) (by rw [c4]; rfl) ⟨by decide, by decide⟩ ?_
            refine e_aload_n (pc' := 66) (dAt D145 17 rfl) rfl rfl ?_
            refine e_getfield (pc' := 69) (dAt D145 18 rfl) rfl rfl hOx0 (hT.int hOx0 6 (by decide)) ?_
            exact e_ireturn (dAt D145 19 rfl) rfl ⟨rfl, fun e => by cases e⟩ h
          · skip
            refine e_tableswitch (off := 69) (t := 70) (dAt D145 1 rfl) (if_pos (sw_out (fun k h1 h2 e => by
              have hk : k = 0 ∨ k = 1 ∨ k = 2 ∨ k = 3 ∨ k = 4 := by omega
              rcases hk with rfl | rfl | rfl | rfl | rfl
              · exact c0 (Int32.toInt_inj.mp (e.trans (by decide)))
              · exact c1 (Int32.toInt_inj.mp (e.trans (by decide)))
              · exact c2 (Int32.toInt_inj.mp (e.trans (by decide)))
              · exact c3 (Int32.toInt_inj.mp (e.trans (by decide)))
              · exact c4 (Int32.toInt_inj.mp (e.trans (by decide)))
              ))) ⟨by decide, by decide⟩ ?_
            refine e_iconst (pc' := 71) (v := (-1)) (dAt D145 20 rfl) rfl (by decide) ?_
            exact e_ireturn (dAt D145 21 rfl) rfl ⟨rfl, fun e => by cases e⟩ h
-- PlaceNets.count.(I)I, from 56
set_option maxRecDepth 20000 in
theorem bk145_56 {d b : Nat} {Q : Option Value → mMem → Prop} {m : mMem} {x0 : Nat} {x1 : Int32} {y0 : Int32} (hT : mWT m) (hOx0 : m.1 x0 = some (.inr 0) ∧ x0 ≠ 0)
    (h : Q (some (.int y0)) m) :
    mEs d 145 b g145 (56, [some (.ref x0), some (.int x1)], [.int y0], m) Q := by
  exact e_ireturn (dAt D145 12 rfl) rfl ⟨rfl, fun e => by cases e⟩ h
