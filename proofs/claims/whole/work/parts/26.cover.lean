abbrev g41 : mG := (⟨"PlaceNets$Cover", "build", "(LPlaceNets$Net;[I)V"⟩, prog_2_method_2_code, 4, none, 4, 3, 3, false)
theorem G41 : mGm[41]? = some g41 := rfl
def tb41 : List (Nat × Instr × Nat) := [(0, .aload_n 0, 1), (1, .iconst (0), 1), (2, .putfield 24, 3), (5, .aload_n 0, 1), (6, .aload_n 1, 1), (7, .getfield 28, 3), (10, .putfield 34, 3), (13, .aload_n 2, 1), (14, .iconst (0), 1), (15, .aload_n 0, 1), (16, .getfield 11, 3), (19, .iconst (0), 1), (20, .bipush (10), 2), (22, .invokestatic 35, 3), (25, .aload_n 0, 1), (26, .getfield 15, 3), (29, .iconst (0), 1), (30, .iconst (-1), 1), (31, .iastore, 1), (32, .aload_n 0, 1), (33, .getfield 18, 3), (36, .iconst (0), 1), (37, .iconst (-1), 1), (38, .iastore, 1), (39, .aload_n 0, 1), (40, .iconst (1), 1), (41, .putfield 41, 3), (44, .iconst (0), 1), (45, .istore_n 3, 1), (46, .iload_n 3, 1), (47, .sipush (200), 3), (50, .if_icmp .ge (68), 3), (53, .iload_n 3, 1), (54, .aload_n 0, 1), (55, .getfield 41, 3), (58, .if_icmp .ge (60), 3), (61, .aload_n 0, 1), (62, .getfield 24, 3), (65, .ifCond .ne (53), 3), (68, .aload_n 0, 1), (69, .getfield 21, 3), (72, .iload_n 3, 1), (73, .aload_n 0, 1), (74, .iload_n 3, 1), (75, .invokevirtual 44, 3), (78, .ifCond .eq (7), 3), (81, .iconst (2), 1), (82, .goto (4), 3), (85, .iconst (0), 1), (86, .iastore, 1), (87, .aload_n 0, 1), (88, .getfield 21, 3), (91, .iload_n 3, 1), (92, .iaload, 1), (93, .ifCond .ne (19), 3), (96, .aload_n 0, 1), (97, .aload_n 1, 1), (98, .iload_n 3, 1), (99, .invokevirtual 48, 3), (102, .ifCond .ne (10), 3), (105, .aload_n 0, 1), (106, .getfield 21, 3), (109, .iload_n 3, 1), (110, .iconst (1), 1), (111, .iastore, 1), (112, .iinc 3 (1), 3), (115, .goto (-69), 3), (118, .return_, 1)]
set_option maxRecDepth 20000 in
theorem D41 : tb41.all (dOk prog_2_method_2_code) = true := by decide +kernel
abbrev g42 : mG := (⟨"PlaceNets$Cover", "isOld", "(I)Z"⟩, prog_2_method_8_code, 3, (some .boolean), 4, 2, 3, false)
theorem G42 : mGm[42]? = some g42 := rfl
def tb42 : List (Nat × Instr × Nat) := [(0, .iconst (0), 1), (1, .istore_n 2, 1), (2, .iload_n 2, 1), (3, .iload_n 1, 1), (4, .if_icmp .ge (20), 3), (7, .aload_n 0, 1), (8, .iload_n 1, 1), (9, .iload_n 2, 1), (10, .invokevirtual 79, 3), (13, .ifCond .eq (5), 3), (16, .iconst (1), 1), (17, .ireturn, 1), (18, .iinc 2 (1), 3), (21, .goto (-19), 3), (24, .iconst (0), 1), (25, .ireturn, 1)]
set_option maxRecDepth 20000 in
theorem D42 : tb42.all (dOk prog_2_method_8_code) = true := by decide +kernel
abbrev g43 : mG := (⟨"PlaceNets$Cover", "isSame", "(II)Z"⟩, prog_2_method_9_code, 4, (some .boolean), 4, 3, 3, false)
theorem G43 : mGm[43]? = some g43 := rfl
def tb43 : List (Nat × Instr × Nat) := [(0, .iconst (0), 1), (1, .istore_n 3, 1), (2, .iload_n 3, 1), (3, .aload_n 0, 1), (4, .getfield 34, 3), (7, .if_icmp .ge (36), 3), (10, .aload_n 0, 1), (11, .getfield 11, 3), (14, .iload_n 1, 1), (15, .bipush (10), 2), (17, .imul, 1), (18, .iload_n 3, 1), (19, .iadd, 1), (20, .iaload, 1), (21, .aload_n 0, 1), (22, .getfield 11, 3), (25, .iload_n 2, 1), (26, .bipush (10), 2), (28, .imul, 1), (29, .iload_n 3, 1), (30, .iadd, 1), (31, .iaload, 1), (32, .if_icmp .eq (5), 3), (35, .iconst (0), 1), (36, .ireturn, 1), (37, .iinc 3 (1), 3), (40, .goto (-38), 3), (43, .iconst (1), 1), (44, .ireturn, 1)]
set_option maxRecDepth 20000 in
theorem D43 : tb43.all (dOk prog_2_method_9_code) = true := by decide +kernel
abbrev g44 : mG := (⟨"PlaceNets$Cover", "grow", "(LPlaceNets$Net;I)Z"⟩, prog_2_method_3_code, 5, (some .boolean), 4, 3, 3, false)
theorem G44 : mGm[44]? = some g44 := rfl
def tb44 : List (Nat × Instr × Nat) := [(0, .iconst (0), 1), (1, .istore_n 3, 1), (2, .iconst (0), 1), (3, .istore 4, 2), (5, .iload 4, 2), (7, .aload_n 1, 1), (8, .getfield 52, 3), (11, .if_icmp .ge (47), 3), (14, .aload_n 0, 1), (15, .aload_n 1, 1), (16, .iload_n 2, 1), (17, .iload 4, 2), (19, .invokevirtual 55, 3), (22, .ifCond .eq (30), 3), (25, .aload_n 0, 1), (26, .getfield 41, 3), (29, .sipush (200), 3), (32, .if_icmp .lt (10), 3), (35, .aload_n 0, 1), (36, .iconst (1), 1), (37, .putfield 24, 3), (40, .iconst (1), 1), (41, .ireturn, 1), (42, .iconst (1), 1), (43, .istore_n 3, 1), (44, .aload_n 0, 1), (45, .aload_n 1, 1), (46, .iload_n 2, 1), (47, .iload 4, 2), (49, .invokevirtual 59, 3), (52, .iinc 4 (1), 3), (55, .goto (-50), 3), (58, .iload_n 3, 1), (59, .ireturn, 1)]
set_option maxRecDepth 20000 in
theorem D44 : tb44.all (dOk prog_2_method_3_code) = true := by decide +kernel
abbrev g45 : mG := (⟨"PlaceNets$Cover", "isEnough", "(LPlaceNets$Net;II)Z"⟩, prog_2_method_4_code, 5, (some .boolean), 4, 4, 3, false)
theorem G45 : mGm[45]? = some g45 := rfl
def tb45 : List (Nat × Instr × Nat) := [(0, .iconst (0), 1), (1, .istore 4, 2), (3, .iload 4, 2), (5, .aload_n 0, 1), (6, .getfield 34, 3), (9, .if_icmp .ge (38), 3), (12, .aload_n 0, 1), (13, .getfield 11, 3), (16, .iload_n 2, 1), (17, .bipush (10), 2), (19, .imul, 1), (20, .iload 4, 2), (22, .iadd, 1), (23, .iaload, 1), (24, .aload_n 1, 1), (25, .getfield 63, 3), (28, .iload_n 3, 1), (29, .bipush (10), 2), (31, .imul, 1), (32, .iload 4, 2), (34, .iadd, 1), (35, .iaload, 1), (36, .if_icmp .ge (5), 3), (39, .iconst (0), 1), (40, .ireturn, 1), (41, .iinc 4 (1), 3), (44, .goto (-41), 3), (47, .iconst (1), 1), (48, .ireturn, 1)]
set_option maxRecDepth 20000 in
theorem D45 : tb45.all (dOk prog_2_method_4_code) = true := by decide +kernel
abbrev g46 : mG := (⟨"PlaceNets$Cover", "addNode", "(LPlaceNets$Net;II)V"⟩, prog_2_method_5_code, 6, none, 4, 4, 3, false)
theorem G46 : mGm[46]? = some g46 := rfl
def tb46 : List (Nat × Instr × Nat) := [(0, .iconst (0), 1), (1, .istore 4, 2), (3, .iload 4, 2), (5, .aload_n 0, 1), (6, .getfield 34, 3), (9, .if_icmp .ge (60), 3), (12, .aload_n 0, 1), (13, .getfield 11, 3), (16, .iload_n 2, 1), (17, .bipush (10), 2), (19, .imul, 1), (20, .iload 4, 2), (22, .iadd, 1), (23, .iaload, 1), (24, .istore 5, 2), (26, .aload_n 0, 1), (27, .getfield 11, 3), (30, .aload_n 0, 1), (31, .getfield 41, 3), (34, .bipush (10), 2), (36, .imul, 1), (37, .iload 4, 2), (39, .iadd, 1), (40, .iload 5, 2), (42, .ldc 66, 2), (44, .if_icmp .ne (8), 3), (47, .ldc 66, 2), (49, .goto (13), 3), (52, .iload 5, 2), (54, .aload_n 1, 1), (55, .iload_n 3, 1), (56, .iload 4, 2), (58, .invokevirtual 67, 3), (61, .iadd, 1), (62, .iastore, 1), (63, .iinc 4 (1), 3), (66, .goto (-63), 3), (69, .aload_n 0, 1), (70, .getfield 15, 3), (73, .aload_n 0, 1), (74, .getfield 41, 3), (77, .iload_n 2, 1), (78, .iastore, 1), (79, .aload_n 0, 1), (80, .getfield 18, 3), (83, .aload_n 0, 1), (84, .getfield 41, 3), (87, .iload_n 3, 1), (88, .iastore, 1), (89, .iload_n 2, 1), (90, .istore 4, 2), (92, .iconst (0), 1), (93, .istore 5, 2), (95, .iload 5, 2), (97, .sipush (200), 3), (100, .if_icmp .ge (47), 3), (103, .iload 4, 2), (105, .iconst (-1), 1), (106, .if_icmp .eq (41), 3), (109, .aload_n 0, 1), (110, .iload 4, 2), (112, .aload_n 0, 1), (113, .getfield 41, 3), (116, .invokevirtual 71, 3), (119, .ifCond .eq (13), 3), (122, .aload_n 0, 1), (123, .iload 4, 2), (125, .aload_n 0, 1), (126, .getfield 41, 3), (129, .invokevirtual 75, 3), (132, .aload_n 0, 1), (133, .getfield 15, 3), (136, .iload 4, 2), (138, .iaload, 1), (139, .istore 4, 2), (141, .iinc 5 (1), 3), (144, .goto (-49), 3), (147, .aload_n 0, 1), (148, .dup, 1), (149, .getfield 41, 3), (152, .iconst (1), 1), (153, .iadd, 1), (154, .putfield 41, 3), (157, .return_, 1)]
set_option maxRecDepth 20000 in
theorem D46 : tb46.all (dOk prog_2_method_5_code) = true := by decide +kernel
abbrev g47 : mG := (⟨"PlaceNets$Cover", "isWithin", "(II)Z"⟩, prog_2_method_6_code, 4, (some .boolean), 4, 3, 3, false)
theorem G47 : mGm[47]? = some g47 := rfl
def tb47 : List (Nat × Instr × Nat) := [(0, .iconst (0), 1), (1, .istore_n 3, 1), (2, .iload_n 3, 1), (3, .aload_n 0, 1), (4, .getfield 34, 3), (7, .if_icmp .ge (36), 3), (10, .aload_n 0, 1), (11, .getfield 11, 3), (14, .iload_n 1, 1), (15, .bipush (10), 2), (17, .imul, 1), (18, .iload_n 3, 1), (19, .iadd, 1), (20, .iaload, 1), (21, .aload_n 0, 1), (22, .getfield 11, 3), (25, .iload_n 2, 1), (26, .bipush (10), 2), (28, .imul, 1), (29, .iload_n 3, 1), (30, .iadd, 1), (31, .iaload, 1), (32, .if_icmp .le (5), 3), (35, .iconst (0), 1), (36, .ireturn, 1), (37, .iinc 3 (1), 3), (40, .goto (-38), 3), (43, .iconst (1), 1), (44, .ireturn, 1)]
set_option maxRecDepth 20000 in
theorem D47 : tb47.all (dOk prog_2_method_6_code) = true := by decide +kernel
abbrev g48 : mG := (⟨"PlaceNets$Cover", "raise", "(II)V"⟩, prog_2_method_7_code, 4, none, 4, 3, 3, false)
theorem G48 : mGm[48]? = some g48 := rfl
def tb48 : List (Nat × Instr × Nat) := [(0, .iconst (0), 1), (1, .istore_n 3, 1), (2, .iload_n 3, 1), (3, .aload_n 0, 1), (4, .getfield 34, 3), (7, .if_icmp .ge (47), 3), (10, .aload_n 0, 1), (11, .getfield 11, 3), (14, .iload_n 1, 1), (15, .bipush (10), 2), (17, .imul, 1), (18, .iload_n 3, 1), (19, .iadd, 1), (20, .iaload, 1), (21, .aload_n 0, 1), (22, .getfield 11, 3), (25, .iload_n 2, 1), (26, .bipush (10), 2), (28, .imul, 1), (29, .iload_n 3, 1), (30, .iadd, 1), (31, .iaload, 1), (32, .if_icmp .ge (16), 3), (35, .aload_n 0, 1), (36, .getfield 11, 3), (39, .iload_n 2, 1), (40, .bipush (10), 2), (42, .imul, 1), (43, .iload_n 3, 1), (44, .iadd, 1), (45, .ldc 66, 2), (47, .iastore, 1), (48, .iinc 3 (1), 3), (51, .goto (-49), 3), (54, .return_, 1)]
set_option maxRecDepth 20000 in
theorem D48 : tb48.all (dOk prog_2_method_7_code) = true := by decide +kernel
abbrev g49 : mG := (⟨"PlaceNets$Cover", "tell", "(II)I"⟩, prog_2_method_10_code, 3, (some .int), 4, 3, 3, false)
theorem G49 : mGm[49]? = some g49 := rfl
def tb49 : List (Nat × Instr × Nat) := [(0, .iload_n 1, 1), (1, .ifCond .lt (11), 3), (4, .iload_n 1, 1), (5, .aload_n 0, 1), (6, .getfield 41, 3), (9, .if_icmp .lt (5), 3), (12, .iconst (-1), 1), (13, .ireturn, 1), (14, .iload_n 2, 1), (15, .tableswitch (46) (10) (12) #[(25), (32), (39)], 25), (40, .aload_n 0, 1), (41, .getfield 15, 3), (44, .iload_n 1, 1), (45, .iaload, 1), (46, .ireturn, 1), (47, .aload_n 0, 1), (48, .getfield 18, 3), (51, .iload_n 1, 1), (52, .iaload, 1), (53, .ireturn, 1), (54, .aload_n 0, 1), (55, .getfield 21, 3), (58, .iload_n 1, 1), (59, .iaload, 1), (60, .ireturn, 1), (61, .iload_n 2, 1), (62, .ifCond .lt (28), 3), (65, .iload_n 2, 1), (66, .aload_n 0, 1), (67, .getfield 34, 3), (70, .if_icmp .ge (20), 3), (73, .aload_n 0, 1), (74, .getfield 11, 3), (77, .iload_n 1, 1), (78, .bipush (10), 2), (80, .imul, 1), (81, .iload_n 2, 1), (82, .iadd, 1), (83, .iaload, 1), (84, .invokestatic 82, 3), (87, .goto (4), 3), (90, .iconst (-1), 1), (91, .ireturn, 1)]
set_option maxRecDepth 20000 in
theorem D49 : tb49.all (dOk prog_2_method_10_code) = true := by decide +kernel
abbrev g50 : mG := (⟨"PlaceNets$Cover", "shown", "(I)I"⟩, prog_2_method_11_code, 1, (some .int), 4, 1, 99, false)
theorem G50 : mGm[50]? = some g50 := rfl
def tb50 : List (Nat × Instr × Nat) := [(0, .iload_n 0, 1), (1, .ldc 66, 2), (3, .if_icmp .ne (8), 3), (6, .bipush (-9), 2), (8, .goto (4), 3), (11, .iload_n 0, 1), (12, .ireturn, 1)]
set_option maxRecDepth 20000 in
theorem D50 : tb50.all (dOk prog_2_method_11_code) = true := by decide +kernel
abbrev g52 : mG := (⟨"PlaceNets$Cover", "mostIn", "(I)I"⟩, prog_2_method_12_code, 4, (some .int), 4, 2, 3, false)
theorem G52 : mGm[52]? = some g52 := rfl
def tb52 : List (Nat × Instr × Nat) := [(0, .iconst (0), 1), (1, .istore_n 2, 1), (2, .iconst (0), 1), (3, .istore_n 3, 1), (4, .iload_n 3, 1), (5, .aload_n 0, 1), (6, .getfield 41, 3), (9, .if_icmp .ge (25), 3), (12, .iload_n 2, 1), (13, .aload_n 0, 1), (14, .getfield 11, 3), (17, .iload_n 3, 1), (18, .bipush (10), 2), (20, .imul, 1), (21, .iload_n 1, 1), (22, .iadd, 1), (23, .iaload, 1), (24, .invokestatic 86, 3), (27, .istore_n 2, 1), (28, .iinc 3 (1), 3), (31, .goto (-27), 3), (34, .iload_n 2, 1), (35, .invokestatic 82, 3), (38, .ireturn, 1)]
set_option maxRecDepth 20000 in
theorem D52 : tb52.all (dOk prog_2_method_12_code) = true := by decide +kernel
abbrev g54 : mG := (⟨"PlaceNets$Cover", "leastAbove", "([I)I"⟩, prog_2_method_13_code, 3, (some .int), 4, 2, 3, false)
theorem G54 : mGm[54]? = some g54 := rfl
def tb54 : List (Nat × Instr × Nat) := [(0, .iconst (0), 1), (1, .istore_n 2, 1), (2, .iload_n 2, 1), (3, .aload_n 0, 1), (4, .getfield 41, 3), (7, .if_icmp .ge (20), 3), (10, .aload_n 0, 1), (11, .iload_n 2, 1), (12, .aload_n 1, 1), (13, .invokevirtual 91, 3), (16, .ifCond .eq (5), 3), (19, .iload_n 2, 1), (20, .ireturn, 1), (21, .iinc 2 (1), 3), (24, .goto (-22), 3), (27, .bipush (-3), 2), (29, .ireturn, 1)]
set_option maxRecDepth 20000 in
theorem D54 : tb54.all (dOk prog_2_method_13_code) = true := by decide +kernel
abbrev g55 : mG := (⟨"PlaceNets$Cover", "isAbove", "(I[I)Z"⟩, prog_2_method_15_code, 4, (some .boolean), 4, 3, 3, false)
theorem G55 : mGm[55]? = some g55 := rfl
def tb55 : List (Nat × Instr × Nat) := [(0, .iconst (0), 1), (1, .istore_n 3, 1), (2, .iload_n 3, 1), (3, .aload_n 0, 1), (4, .getfield 34, 3), (7, .if_icmp .ge (28), 3), (10, .aload_n 0, 1), (11, .getfield 11, 3), (14, .iload_n 1, 1), (15, .bipush (10), 2), (17, .imul, 1), (18, .iload_n 3, 1), (19, .iadd, 1), (20, .iaload, 1), (21, .aload_n 2, 1), (22, .iload_n 3, 1), (23, .iaload, 1), (24, .if_icmp .ge (5), 3), (27, .iconst (0), 1), (28, .ireturn, 1), (29, .iinc 3 (1), 3), (32, .goto (-30), 3), (35, .iconst (1), 1), (36, .ireturn, 1)]
set_option maxRecDepth 20000 in
theorem D55 : tb55.all (dOk prog_2_method_15_code) = true := by decide +kernel
abbrev g56 : mG := (⟨"PlaceNets$Cover", "countAbove", "([I)I"⟩, prog_2_method_14_code, 4, (some .int), 4, 2, 3, false)
theorem G56 : mGm[56]? = some g56 := rfl
def tb56 : List (Nat × Instr × Nat) := [(0, .iconst (0), 1), (1, .istore_n 2, 1), (2, .iconst (0), 1), (3, .istore_n 3, 1), (4, .iload_n 3, 1), (5, .aload_n 0, 1), (6, .getfield 41, 3), (9, .if_icmp .ge (21), 3), (12, .aload_n 0, 1), (13, .iload_n 3, 1), (14, .aload_n 1, 1), (15, .invokevirtual 91, 3), (18, .ifCond .eq (6), 3), (21, .iinc 2 (1), 3), (24, .iinc 3 (1), 3), (27, .goto (-23), 3), (30, .iload_n 2, 1), (31, .ireturn, 1)]
set_option maxRecDepth 20000 in
theorem D56 : tb56.all (dOk prog_2_method_14_code) = true := by decide +kernel
-- PlaceNets$Cover.build.(LPlaceNets$Net;[I)V, from 0
set_option maxRecDepth 20000 in
theorem bk41_0 {d b : Nat} {Q : Option Value → mMem → Prop} {m : mMem} {x0 : Nat} {x1 : Nat} {x2 : Nat} {lx2 : Nat} {x3 : Option Value} (hT : mWT m) (hOx0 : m.1 x0 = some (.inr 3) ∧ x0 ≠ 0) (hOx1 : m.1 x1 = some (.inr 2) ∧ x1 ≠ 0) (hAx2 : m.1 x2 = some (.inl (.int, lx2)) ∧ x2 ≠ 0) (hd1 : 1 ≤ d)
    (h : ∀ (m_1 : mMem), m_1 = (mSetF m x0 2 (.int 0)) → ∀ (m_3 : mMem), m_3 = (mSetF m_1 x0 7 (.int (iF m_1 x1 0))) → (¬ (0 : Int32) < 0 ∧ ¬ (0 : Int32) < 0 ∧ ¬ (10 : Int32) < 0 ∧ (0 : Int32).toNatClampNeg + (10 : Int32).toNatClampNeg ≤ lx2 ∧ (0 : Int32).toNatClampNeg + (10 : Int32).toNatClampNeg ≤ 2000) ∧ (∀ (m_5 : mMem), m_5 = (mSetI m_3 (64 * x0 + 1) (va_cpy (m_3.2.2.1 x2) (m_3.2.2.1 (64 * x0 + 1)) (0 : Int32).toNatClampNeg (0 : Int32).toNatClampNeg (10 : Int32).toNatClampNeg)) → (mIn 0 200 = true) ∧ (∀ (m_7 : mMem), m_7 = (mSetI m_5 (64 * x0 + 2) (upd (m_5.2.2.1 (64 * x0 + 2)) (0 : Int32).toNatClampNeg ((-1)))) → (mIn 0 200 = true) ∧ (∀ (m_9 : mMem), m_9 = (mSetI m_7 (64 * x0 + 3) (upd (m_7.2.2.1 (64 * x0 + 3)) (0 : Int32).toNatClampNeg ((-1)))) → ∀ (m_11 : mMem), m_11 = (mSetF m_9 x0 1 (.int 1)) → mEs d 41 b g41 (46, [some (.ref x0), some (.ref x1), some (.ref x2), some (.int 0)], [], m_11) Q)))) :
    mEs d 41 b g41 (0, [some (.ref x0), some (.ref x1), some (.ref x2), x3], [], m) Q := by
  refine e_aload_n (pc' := 1) (dAt D41 0 rfl) rfl rfl ?_
  refine e_iconst (pc' := 2) (v := 0) (dAt D41 1 rfl) rfl (by decide) ?_
  replace h := h _ rfl
  refine e_putfield (pc' := 5) (dAt D41 2 rfl) rfl rfl hOx0 rfl rfl (fun e => by cases e) ?_
  refine wtF hT hOx0 (by decide) (fun hT_2 => ?_)
  refine e_aload_n (pc' := 6) (dAt D41 3 rfl) rfl rfl ?_
  refine e_aload_n (pc' := 7) (dAt D41 4 rfl) rfl rfl ?_
  refine e_getfield (pc' := 10) (dAt D41 5 rfl) rfl rfl hOx1 (hT_2.int hOx1 0 (by decide)) ?_
  replace h := h _ rfl
  refine e_putfield (pc' := 13) (dAt D41 6 rfl) rfl rfl hOx0 rfl rfl (fun e => by cases e) ?_
  refine wtF hT_2 hOx0 (by decide) (fun hT_4 => ?_)
  refine e_aload_n (pc' := 14) (dAt D41 7 rfl) rfl rfl ?_
  refine e_iconst (pc' := 15) (v := 0) (dAt D41 8 rfl) rfl (by decide) ?_
  refine e_aload_n (pc' := 16) (dAt D41 9 rfl) rfl rfl ?_
  refine e_getfield (pc' := 19) (dAt D41 10 rfl) rfl rfl hOx0 (hT_4.own hOx0 0 rfl) ?_
  refine e_iconst (pc' := 20) (v := 0) (dAt D41 11 rfl) rfl (by decide) ?_
  refine e_bipush (pc' := 22) (v := 10) (dAt D41 12 rfl) rfl (by decide) ?_
  obtain ⟨f1, h⟩ := h
  replace h := h _ rfl
  refine e_copy (pc' := 25) (dAt D41 13 rfl) rfl rfl hAx2 (hT_4.arr hOx0 0 rfl (by decide)) f1 ⟨hd1, Nat.le_of_ble_eq_true rfl⟩ ?_
  refine wtI hT_4 (fun hT_6 => ?_)
  refine e_aload_n (pc' := 26) (dAt D41 14 rfl) rfl rfl ?_
  refine e_getfield (pc' := 29) (dAt D41 15 rfl) rfl rfl hOx0 (hT_6.own hOx0 1 rfl) ?_
  refine e_iconst (pc' := 30) (v := 0) (dAt D41 16 rfl) rfl (by decide) ?_
  refine e_iconst (pc' := 31) (v := (-1)) (dAt D41 17 rfl) rfl (by decide) ?_
  obtain ⟨f1, h⟩ := h
  replace h := h _ rfl
  refine e_iastore (pc' := 32) (dAt D41 18 rfl) rfl (hT_6.arr hOx0 1 rfl (by decide)).1 (hT_6.arr hOx0 1 rfl (by decide)).2 f1 (nar_i _) ?_
  refine wtI hT_6 (fun hT_8 => ?_)
  refine e_aload_n (pc' := 33) (dAt D41 19 rfl) rfl rfl ?_
  refine e_getfield (pc' := 36) (dAt D41 20 rfl) rfl rfl hOx0 (hT_8.own hOx0 2 rfl) ?_
  refine e_iconst (pc' := 37) (v := 0) (dAt D41 21 rfl) rfl (by decide) ?_
  refine e_iconst (pc' := 38) (v := (-1)) (dAt D41 22 rfl) rfl (by decide) ?_
  obtain ⟨f1, h⟩ := h
  replace h := h _ rfl
  refine e_iastore (pc' := 39) (dAt D41 23 rfl) rfl (hT_8.arr hOx0 2 rfl (by decide)).1 (hT_8.arr hOx0 2 rfl (by decide)).2 f1 (nar_i _) ?_
  refine wtI hT_8 (fun hT_10 => ?_)
  refine e_aload_n (pc' := 40) (dAt D41 24 rfl) rfl rfl ?_
  refine e_iconst (pc' := 41) (v := 1) (dAt D41 25 rfl) rfl (by decide) ?_
  replace h := h _ rfl
  refine e_putfield (pc' := 44) (dAt D41 26 rfl) rfl rfl hOx0 rfl rfl (fun e => by cases e) ?_
  refine wtF hT_10 hOx0 (by decide) (fun hT_12 => ?_)
  refine e_iconst (pc' := 45) (v := 0) (dAt D41 27 rfl) rfl (by decide) ?_
  refine e_istore_n (pc' := 46) (dAt D41 28 rfl) rfl (Nat.le_of_ble_eq_true rfl) rfl ?_
  exact h
-- PlaceNets$Cover.build.(LPlaceNets$Net;[I)V, from 46
set_option maxRecDepth 20000 in
theorem bk41_46 {d b : Nat} {Q : Option Value → mMem → Prop} {m : mMem} {x0 : Nat} {x1 : Nat} {x2 : Nat} {lx2 : Nat} {x3 : Int32} (hT : mWT m) (hOx0 : m.1 x0 = some (.inr 3) ∧ x0 ≠ 0) (hOx1 : m.1 x1 = some (.inr 2) ∧ x1 ≠ 0) (hAx2 : m.1 x2 = some (.inl (.int, lx2)) ∧ x2 ≠ 0)
    (h : (((200 ≤ x3) → (Q none m)) ∧ (¬ (200 ≤ x3) → ((((iF m x0 1) ≤ x3) → (Q none m)) ∧ (¬ ((iF m x0 1) ≤ x3) → (((¬ (iF m x0 2) = 0) → (Q none m)) ∧ (¬ (¬ (iF m x0 2) = 0) → (mEv d 42 [.ref x0, .int x3] m (fun r m' => mEs d 41 b g41 (78, [some (.ref x0), some (.ref x1), some (.ref x2), some (.int x3)], r.toList ++ [.int x3, .ref (64 * x0 + 4)], m') Q))))))))) :
    mEs d 41 b g41 (46, [some (.ref x0), some (.ref x1), some (.ref x2), some (.int x3)], [], m) Q := by
  refine e_iload_n (pc' := 47) (dAt D41 29 rfl) rfl rfl ?_
  refine e_sipush (pc' := 50) (v := 200) (dAt D41 30 rfl) rfl (by decide) ?_
  refine e_icmp_ge (t := 118) (pc' := 53) (dAt D41 31 rfl) ⟨by decide, by decide⟩ rfl (fun c => ?_) (fun c => ?_)
  · replace h := h.1 c
    exact e_return (dAt D41 67 rfl) rfl h
  · replace h := h.2 c
    refine e_iload_n (pc' := 54) (dAt D41 32 rfl) rfl rfl ?_
    refine e_aload_n (pc' := 55) (dAt D41 33 rfl) rfl rfl ?_
    refine e_getfield (pc' := 58) (dAt D41 34 rfl) rfl rfl hOx0 (hT.int hOx0 1 (by decide)) ?_
    refine e_icmp_ge (t := 118) (pc' := 61) (dAt D41 35 rfl) ⟨by decide, by decide⟩ rfl (fun c => ?_) (fun c => ?_)
    · replace h := h.1 c
      exact e_return (dAt D41 67 rfl) rfl h
    · replace h := h.2 c
      refine e_aload_n (pc' := 62) (dAt D41 36 rfl) rfl rfl ?_
      refine e_getfield (pc' := 65) (dAt D41 37 rfl) rfl rfl hOx0 (hT.int hOx0 2 (by decide)) ?_
      refine e_if_ne (t := 118) (pc' := 68) (dAt D41 38 rfl) ⟨by decide, by decide⟩ rfl (fun c => ?_) (fun c => ?_)
      · replace h := h.1 c
        exact e_return (dAt D41 67 rfl) rfl h
      · replace h := h.2 c
        refine e_aload_n (pc' := 69) (dAt D41 39 rfl) rfl rfl ?_
        refine e_getfield (pc' := 72) (dAt D41 40 rfl) rfl rfl hOx0 (hT.own hOx0 3 rfl) ?_
        refine e_iload_n (pc' := 73) (dAt D41 41 rfl) rfl rfl ?_
        refine e_aload_n (pc' := 74) (dAt D41 42 rfl) rfl rfl ?_
        refine e_iload_n (pc' := 75) (dAt D41 43 rfl) rfl rfl ?_
        exact e_call2 h (dAt D41 44 rfl) (hi0 rfl) rfl G42 (by decide) rfl (Nat.le_of_ble_eq_true rfl) (kV hOx0 rfl rfl) rfl rfl
-- PlaceNets$Cover.build.(LPlaceNets$Net;[I)V, from 78
set_option maxRecDepth 20000 in
theorem bk41_78 {d b : Nat} {Q : Option Value → mMem → Prop} {m : mMem} {x0 : Nat} {x1 : Nat} {x2 : Nat} {lx2 : Nat} {x3 : Int32} {y0 : Nat} {ly0 : Nat} {y1 : Int32} {y2 : Int32} (hT : mWT m) (hOx0 : m.1 x0 = some (.inr 3) ∧ x0 ≠ 0) (hOx1 : m.1 x1 = some (.inr 2) ∧ x1 ≠ 0) (hAx2 : m.1 x2 = some (.inl (.int, lx2)) ∧ x2 ≠ 0) (hAy0 : m.1 y0 = some (.inl (.int, ly0)) ∧ y0 ≠ 0)
    (h : (((y2 = 0) → ((mIn y1 ly0 = true) ∧ (∀ (m_1 : mMem), m_1 = (mSetI m y0 (upd (m.2.2.1 y0) y1.toNatClampNeg 0)) → (mIn x3 200 = true) ∧ (((¬ (m_1.2.2.1 (64 * x0 + 4) x3.toNatClampNeg) = 0) → (∀ (v_3 : Int32), v_3 = (x3 + 1) → mEs d 41 b g41 (46, [some (.ref x0), some (.ref x1), some (.ref x2), some (.int v_3)], [], m_1) Q)) ∧ (¬ (¬ (m_1.2.2.1 (64 * x0 + 4) x3.toNatClampNeg) = 0) → (mEv d 44 [.ref x0, .ref x1, .int x3] m_1 (fun r m' => mEs d 41 b g41 (102, [some (.ref x0), some (.ref x1), some (.ref x2), some (.int x3)], r.toList ++ [], m') Q))))))) ∧ (¬ (y2 = 0) → ((mIn y1 ly0 = true) ∧ (∀ (m_4 : mMem), m_4 = (mSetI m y0 (upd (m.2.2.1 y0) y1.toNatClampNeg 2)) → (mIn x3 200 = true) ∧ (((¬ (m_4.2.2.1 (64 * x0 + 4) x3.toNatClampNeg) = 0) → (∀ (v_6 : Int32), v_6 = (x3 + 1) → mEs d 41 b g41 (46, [some (.ref x0), some (.ref x1), some (.ref x2), some (.int v_6)], [], m_4) Q)) ∧ (¬ (¬ (m_4.2.2.1 (64 * x0 + 4) x3.toNatClampNeg) = 0) → (mEv d 44 [.ref x0, .ref x1, .int x3] m_4 (fun r m' => mEs d 41 b g41 (102, [some (.ref x0), some (.ref x1), some (.ref x2), some (.int x3)], r.toList ++ [], m') Q))))))))) :
    mEs d 41 b g41 (78, [some (.ref x0), some (.ref x1), some (.ref x2), some (.int x3)], [.int y2, .int y1, .ref y0], m) Q := by
  refine e_if_eq (t := 85) (pc' := 81) (dAt D41 45 rfl) ⟨by decide, by decide⟩ rfl (fun c => ?_) (fun c => ?_)
  · replace h := h.1 c
    refine e_iconst (pc' := 86) (v := 0) (dAt D41 48 rfl) rfl (by decide) ?_
    obtain ⟨f1, h⟩ := h
    replace h := h _ rfl
    refine e_iastore (pc' := 87) (dAt D41 49 rfl) rfl hAy0.1 hAy0.2 f1 (nar_i _) ?_
    refine wtI hT (fun hT_2 => ?_)
    refine e_aload_n (pc' := 88) (dAt D41 50 rfl) rfl rfl ?_
    refine e_getfield (pc' := 91) (dAt D41 51 rfl) rfl rfl hOx0 (hT_2.own hOx0 3 rfl) ?_
    refine e_iload_n (pc' := 92) (dAt D41 52 rfl) rfl rfl ?_
    obtain ⟨f1, h⟩ := h
    refine e_iaload (pc' := 93) (dAt D41 53 rfl) rfl (hT_2.arr hOx0 3 rfl (by decide)).1 (Or.inl (hT_2.arr hOx0 3 rfl (by decide)).2) f1 rfl ?_
    refine e_if_ne (t := 112) (pc' := 96) (dAt D41 54 rfl) ⟨by decide, by decide⟩ rfl (fun c => ?_) (fun c => ?_)
    · replace h := h.1 c
      replace h := h _ rfl
      refine e_iinc (pc' := 115) (dAt D41 65 rfl) rfl rfl (Nat.le_of_ble_eq_true rfl) (congrArg (_ + ·) (show Int32.ofInt (1) = (1 : Int32) by decide)) rfl ?_
      refine e_goto (t := 46) (dAt D41 66 rfl) ⟨by decide, by decide⟩ ?_
      exact h
    · replace h := h.2 c
      refine e_aload_n (pc' := 97) (dAt D41 55 rfl) rfl rfl ?_
      refine e_aload_n (pc' := 98) (dAt D41 56 rfl) rfl rfl ?_
      refine e_iload_n (pc' := 99) (dAt D41 57 rfl) rfl rfl ?_
      exact e_call2 h (dAt D41 58 rfl) (hi0 rfl) rfl G44 (by decide) rfl (Nat.le_of_ble_eq_true rfl) (kV hOx0 rfl rfl) rfl rfl
  · replace h := h.2 c
    refine e_iconst (pc' := 82) (v := 2) (dAt D41 46 rfl) rfl (by decide) ?_
    refine e_goto (t := 86) (dAt D41 47 rfl) ⟨by decide, by decide⟩ ?_
    obtain ⟨f1, h⟩ := h
    replace h := h _ rfl
    refine e_iastore (pc' := 87) (dAt D41 49 rfl) rfl hAy0.1 hAy0.2 f1 (nar_i _) ?_
    refine wtI hT (fun hT_5 => ?_)
    refine e_aload_n (pc' := 88) (dAt D41 50 rfl) rfl rfl ?_
    refine e_getfield (pc' := 91) (dAt D41 51 rfl) rfl rfl hOx0 (hT_5.own hOx0 3 rfl) ?_
    refine e_iload_n (pc' := 92) (dAt D41 52 rfl) rfl rfl ?_
    obtain ⟨f1, h⟩ := h
    refine e_iaload (pc' := 93) (dAt D41 53 rfl) rfl (hT_5.arr hOx0 3 rfl (by decide)).1 (Or.inl (hT_5.arr hOx0 3 rfl (by decide)).2) f1 rfl ?_
    refine e_if_ne (t := 112) (pc' := 96) (dAt D41 54 rfl) ⟨by decide, by decide⟩ rfl (fun c => ?_) (fun c => ?_)
    · replace h := h.1 c
      replace h := h _ rfl
      refine e_iinc (pc' := 115) (dAt D41 65 rfl) rfl rfl (Nat.le_of_ble_eq_true rfl) (congrArg (_ + ·) (show Int32.ofInt (1) = (1 : Int32) by decide)) rfl ?_
      refine e_goto (t := 46) (dAt D41 66 rfl) ⟨by decide, by decide⟩ ?_
      exact h
    · replace h := h.2 c
      refine e_aload_n (pc' := 97) (dAt D41 55 rfl) rfl rfl ?_
      refine e_aload_n (pc' := 98) (dAt D41 56 rfl) rfl rfl ?_
      refine e_iload_n (pc' := 99) (dAt D41 57 rfl) rfl rfl ?_
      exact e_call2 h (dAt D41 58 rfl) (hi0 rfl) rfl G44 (by decide) rfl (Nat.le_of_ble_eq_true rfl) (kV hOx0 rfl rfl) rfl rfl
-- PlaceNets$Cover.build.(LPlaceNets$Net;[I)V, from 102
set_option maxRecDepth 20000 in
theorem bk41_102 {d b : Nat} {Q : Option Value → mMem → Prop} {m : mMem} {x0 : Nat} {x1 : Nat} {x2 : Nat} {lx2 : Nat} {x3 : Int32} {y0 : Int32} (hT : mWT m) (hOx0 : m.1 x0 = some (.inr 3) ∧ x0 ≠ 0) (hOx1 : m.1 x1 = some (.inr 2) ∧ x1 ≠ 0) (hAx2 : m.1 x2 = some (.inl (.int, lx2)) ∧ x2 ≠ 0)
    (h : (((¬ y0 = 0) → (∀ (v_1 : Int32), v_1 = (x3 + 1) → mEs d 41 b g41 (46, [some (.ref x0), some (.ref x1), some (.ref x2), some (.int v_1)], [], m) Q)) ∧ (¬ (¬ y0 = 0) → ((mIn x3 200 = true) ∧ (∀ (m_2 : mMem), m_2 = (mSetI m (64 * x0 + 4) (upd (m.2.2.1 (64 * x0 + 4)) x3.toNatClampNeg 1)) → ∀ (v_4 : Int32), v_4 = (x3 + 1) → mEs d 41 b g41 (46, [some (.ref x0), some (.ref x1), some (.ref x2), some (.int v_4)], [], m_2) Q))))) :
    mEs d 41 b g41 (102, [some (.ref x0), some (.ref x1), some (.ref x2), some (.int x3)], [.int y0], m) Q := by
  refine e_if_ne (t := 112) (pc' := 105) (dAt D41 59 rfl) ⟨by decide, by decide⟩ rfl (fun c => ?_) (fun c => ?_)
  · replace h := h.1 c
    replace h := h _ rfl
    refine e_iinc (pc' := 115) (dAt D41 65 rfl) rfl rfl (Nat.le_of_ble_eq_true rfl) (congrArg (_ + ·) (show Int32.ofInt (1) = (1 : Int32) by decide)) rfl ?_
    refine e_goto (t := 46) (dAt D41 66 rfl) ⟨by decide, by decide⟩ ?_
    exact h
  · replace h := h.2 c
    refine e_aload_n (pc' := 106) (dAt D41 60 rfl) rfl rfl ?_
    refine e_getfield (pc' := 109) (dAt D41 61 rfl) rfl rfl hOx0 (hT.own hOx0 3 rfl) ?_
    refine e_iload_n (pc' := 110) (dAt D41 62 rfl) rfl rfl ?_
    refine e_iconst (pc' := 111) (v := 1) (dAt D41 63 rfl) rfl (by decide) ?_
    obtain ⟨f1, h⟩ := h
    replace h := h _ rfl
    refine e_iastore (pc' := 112) (dAt D41 64 rfl) rfl (hT.arr hOx0 3 rfl (by decide)).1 (hT.arr hOx0 3 rfl (by decide)).2 f1 (nar_i _) ?_
    refine wtI hT (fun hT_3 => ?_)
    replace h := h _ rfl
    refine e_iinc (pc' := 115) (dAt D41 65 rfl) rfl rfl (Nat.le_of_ble_eq_true rfl) (congrArg (_ + ·) (show Int32.ofInt (1) = (1 : Int32) by decide)) rfl ?_
    refine e_goto (t := 46) (dAt D41 66 rfl) ⟨by decide, by decide⟩ ?_
    exact h
-- PlaceNets$Cover.isOld.(I)Z, from 0
set_option maxRecDepth 20000 in
theorem bk42_0 {d b : Nat} {Q : Option Value → mMem → Prop} {m : mMem} {x0 : Nat} {x1 : Int32} {x2 : Option Value} (hT : mWT m) (hOx0 : m.1 x0 = some (.inr 3) ∧ x0 ≠ 0)
    (h : mEs d 42 b g42 (2, [some (.ref x0), some (.int x1), some (.int 0)], [], m) Q) :
    mEs d 42 b g42 (0, [some (.ref x0), some (.int x1), x2], [], m) Q := by
  refine e_iconst (pc' := 1) (v := 0) (dAt D42 0 rfl) rfl (by decide) ?_
  refine e_istore_n (pc' := 2) (dAt D42 1 rfl) rfl (Nat.le_of_ble_eq_true rfl) rfl ?_
  exact h
-- PlaceNets$Cover.isOld.(I)Z, from 2
set_option maxRecDepth 20000 in
theorem bk42_2 {d b : Nat} {Q : Option Value → mMem → Prop} {m : mMem} {x0 : Nat} {x1 : Int32} {x2 : Int32} (hT : mWT m) (hOx0 : m.1 x0 = some (.inr 3) ∧ x0 ≠ 0)
    (h : (((x1 ≤ x2) → (Q (some (.int 0)) m)) ∧ (¬ (x1 ≤ x2) → (mEv d 43 [.ref x0, .int x1, .int x2] m (fun r m' => mEs d 42 b g42 (13, [some (.ref x0), some (.int x1), some (.int x2)], r.toList ++ [], m') Q))))) :
    mEs d 42 b g42 (2, [some (.ref x0), some (.int x1), some (.int x2)], [], m) Q := by
  refine e_iload_n (pc' := 3) (dAt D42 2 rfl) rfl rfl ?_
  refine e_iload_n (pc' := 4) (dAt D42 3 rfl) rfl rfl ?_
  refine e_icmp_ge (t := 24) (pc' := 7) (dAt D42 4 rfl) ⟨by decide, by decide⟩ rfl (fun c => ?_) (fun c => ?_)
  · replace h := h.1 c
    refine e_iconst (pc' := 25) (v := 0) (dAt D42 14 rfl) rfl (by decide) ?_
    exact e_ireturn (dAt D42 15 rfl) rfl ⟨rfl, fun e => by cases e⟩ h
  · replace h := h.2 c
    refine e_aload_n (pc' := 8) (dAt D42 5 rfl) rfl rfl ?_
    refine e_iload_n (pc' := 9) (dAt D42 6 rfl) rfl rfl ?_
    refine e_iload_n (pc' := 10) (dAt D42 7 rfl) rfl rfl ?_
    exact e_call2 h (dAt D42 8 rfl) (hi0 rfl) rfl G43 (by decide) rfl (Nat.le_of_ble_eq_true rfl) (kV hOx0 rfl rfl) rfl rfl
-- PlaceNets$Cover.isOld.(I)Z, from 13
set_option maxRecDepth 20000 in
theorem bk42_13 {d b : Nat} {Q : Option Value → mMem → Prop} {m : mMem} {x0 : Nat} {x1 : Int32} {x2 : Int32} {y0 : Int32} (hT : mWT m) (hOx0 : m.1 x0 = some (.inr 3) ∧ x0 ≠ 0)
    (h : (((y0 = 0) → (∀ (v_1 : Int32), v_1 = (x2 + 1) → mEs d 42 b g42 (2, [some (.ref x0), some (.int x1), some (.int v_1)], [], m) Q)) ∧ (¬ (y0 = 0) → (Q (some (.int 1)) m)))) :
    mEs d 42 b g42 (13, [some (.ref x0), some (.int x1), some (.int x2)], [.int y0], m) Q := by
  refine e_if_eq (t := 18) (pc' := 16) (dAt D42 9 rfl) ⟨by decide, by decide⟩ rfl (fun c => ?_) (fun c => ?_)
  · replace h := h.1 c
    replace h := h _ rfl
    refine e_iinc (pc' := 21) (dAt D42 12 rfl) rfl rfl (Nat.le_of_ble_eq_true rfl) (congrArg (_ + ·) (show Int32.ofInt (1) = (1 : Int32) by decide)) rfl ?_
    refine e_goto (t := 2) (dAt D42 13 rfl) ⟨by decide, by decide⟩ ?_
    exact h
  · replace h := h.2 c
    refine e_iconst (pc' := 17) (v := 1) (dAt D42 10 rfl) rfl (by decide) ?_
    exact e_ireturn (dAt D42 11 rfl) rfl ⟨rfl, fun e => by cases e⟩ h
-- PlaceNets$Cover.isSame.(II)Z, from 0
set_option maxRecDepth 20000 in
theorem bk43_0 {d b : Nat} {Q : Option Value → mMem → Prop} {m : mMem} {x0 : Nat} {x1 : Int32} {x2 : Int32} {x3 : Option Value} (hT : mWT m) (hOx0 : m.1 x0 = some (.inr 3) ∧ x0 ≠ 0)
    (h : mEs d 43 b g43 (2, [some (.ref x0), some (.int x1), some (.int x2), some (.int 0)], [], m) Q) :
    mEs d 43 b g43 (0, [some (.ref x0), some (.int x1), some (.int x2), x3], [], m) Q := by
  refine e_iconst (pc' := 1) (v := 0) (dAt D43 0 rfl) rfl (by decide) ?_
  refine e_istore_n (pc' := 2) (dAt D43 1 rfl) rfl (Nat.le_of_ble_eq_true rfl) rfl ?_
  exact h
-- PlaceNets$Cover.isSame.(II)Z, from 2
set_option maxRecDepth 20000 in
theorem bk43_2 {d b : Nat} {Q : Option Value → mMem → Prop} {m : mMem} {x0 : Nat} {x1 : Int32} {x2 : Int32} {x3 : Int32} (hT : mWT m) (hOx0 : m.1 x0 = some (.inr 3) ∧ x0 ≠ 0)
    (h : ((((iF m x0 7) ≤ x3) → (Q (some (.int 1)) m)) ∧ (¬ ((iF m x0 7) ≤ x3) → ((mIn ((x1 * 10) + x3) 2000 = true) ∧ ((mIn ((x2 * 10) + x3) 2000 = true) ∧ ((((m.2.2.1 (64 * x0 + 1) ((x1 * 10) + x3).toNatClampNeg) = (m.2.2.1 (64 * x0 + 1) ((x2 * 10) + x3).toNatClampNeg)) → (∀ (v_1 : Int32), v_1 = (x3 + 1) → mEs d 43 b g43 (2, [some (.ref x0), some (.int x1), some (.int x2), some (.int v_1)], [], m) Q)) ∧ (¬ ((m.2.2.1 (64 * x0 + 1) ((x1 * 10) + x3).toNatClampNeg) = (m.2.2.1 (64 * x0 + 1) ((x2 * 10) + x3).toNatClampNeg)) → (Q (some (.int 0)) m)))))))) :
    mEs d 43 b g43 (2, [some (.ref x0), some (.int x1), some (.int x2), some (.int x3)], [], m) Q := by
  refine e_iload_n (pc' := 3) (dAt D43 2 rfl) rfl rfl ?_
  refine e_aload_n (pc' := 4) (dAt D43 3 rfl) rfl rfl ?_
  refine e_getfield (pc' := 7) (dAt D43 4 rfl) rfl rfl hOx0 (hT.int hOx0 7 (by decide)) ?_
  refine e_icmp_ge (t := 43) (pc' := 10) (dAt D43 5 rfl) ⟨by decide, by decide⟩ rfl (fun c => ?_) (fun c => ?_)
  · replace h := h.1 c
    refine e_iconst (pc' := 44) (v := 1) (dAt D43 27 rfl) rfl (by decide) ?_
    exact e_ireturn (dAt D43 28 rfl) rfl ⟨rfl, fun e => by cases e⟩ h
  · replace h := h.2 c
    refine e_aload_n (pc' := 11) (dAt D43 6 rfl) rfl rfl ?_
    refine e_getfield (pc' := 14) (dAt D43 7 rfl) rfl rfl hOx0 (hT.own hOx0 0 rfl) ?_
    refine e_iload_n (pc' := 15) (dAt D43 8 rfl) rfl rfl ?_
    refine e_bipush (pc' := 17) (v := 10) (dAt D43 9 rfl) rfl (by decide) ?_
    refine e_imul (pc' := 18) (dAt D43 10 rfl) rfl ?_
    refine e_iload_n (pc' := 19) (dAt D43 11 rfl) rfl rfl ?_
    refine e_iadd (pc' := 20) (dAt D43 12 rfl) rfl ?_
    obtain ⟨f1, h⟩ := h
    refine e_iaload (pc' := 21) (dAt D43 13 rfl) rfl (hT.arr hOx0 0 rfl (by decide)).1 (Or.inl (hT.arr hOx0 0 rfl (by decide)).2) f1 rfl ?_
    refine e_aload_n (pc' := 22) (dAt D43 14 rfl) rfl rfl ?_
    refine e_getfield (pc' := 25) (dAt D43 15 rfl) rfl rfl hOx0 (hT.own hOx0 0 rfl) ?_
    refine e_iload_n (pc' := 26) (dAt D43 16 rfl) rfl rfl ?_
    refine e_bipush (pc' := 28) (v := 10) (dAt D43 17 rfl) rfl (by decide) ?_
    refine e_imul (pc' := 29) (dAt D43 18 rfl) rfl ?_
    refine e_iload_n (pc' := 30) (dAt D43 19 rfl) rfl rfl ?_
    refine e_iadd (pc' := 31) (dAt D43 20 rfl) rfl ?_
    obtain ⟨f1, h⟩ := h
    refine e_iaload (pc' := 32) (dAt D43 21 rfl) rfl (hT.arr hOx0 0 rfl (by decide)).1 (Or.inl (hT.arr hOx0 0 rfl (by decide)).2) f1 rfl ?_
    refine e_icmp_eq (t := 37) (pc' := 35) (dAt D43 22 rfl) ⟨by decide, by decide⟩ rfl (fun c => ?_) (fun c => ?_)
    · replace h := h.1 c
      replace h := h _ rfl
      refine e_iinc (pc' := 40) (dAt D43 25 rfl) rfl rfl (Nat.le_of_ble_eq_true rfl) (congrArg (_ + ·) (show Int32.ofInt (1) = (1 : Int32) by decide)) rfl ?_
      refine e_goto (t := 2) (dAt D43 26 rfl) ⟨by decide, by decide⟩ ?_
      exact h
    · replace h := h.2 c
      refine e_iconst (pc' := 36) (v := 0) (dAt D43 23 rfl) rfl (by decide) ?_
      exact e_ireturn (dAt D43 24 rfl) rfl ⟨rfl, fun e => by cases e⟩ h
-- PlaceNets$Cover.grow.(LPlaceNets$Net;I)Z, from 0
set_option maxRecDepth 20000 in
theorem bk44_0 {d b : Nat} {Q : Option Value → mMem → Prop} {m : mMem} {x0 : Nat} {x1 : Nat} {x2 : Int32} {x3 : Option Value} {x4 : Option Value} (hT : mWT m) (hOx0 : m.1 x0 = some (.inr 3) ∧ x0 ≠ 0) (hOx1 : m.1 x1 = some (.inr 2) ∧ x1 ≠ 0)
    (h : mEs d 44 b g44 (5, [some (.ref x0), some (.ref x1), some (.int x2), some (.int 0), some (.int 0)], [], m) Q) :
    mEs d 44 b g44 (0, [some (.ref x0), some (.ref x1), some (.int x2), x3, x4], [], m) Q := by
  refine e_iconst (pc' := 1) (v := 0) (dAt D44 0 rfl) rfl (by decide) ?_
  refine e_istore_n (pc' := 2) (dAt D44 1 rfl) rfl (Nat.le_of_ble_eq_true rfl) rfl ?_
  refine e_iconst (pc' := 3) (v := 0) (dAt D44 2 rfl) rfl (by decide) ?_
  refine e_istore (pc' := 5) (dAt D44 3 rfl) rfl (Nat.le_of_ble_eq_true rfl) rfl ?_
  exact h
-- PlaceNets$Cover.grow.(LPlaceNets$Net;I)Z, from 5
set_option maxRecDepth 20000 in
theorem bk44_5 {d b : Nat} {Q : Option Value → mMem → Prop} {m : mMem} {x0 : Nat} {x1 : Nat} {x2 : Int32} {x3 : Int32} {x4 : Int32} (hT : mWT m) (hOx0 : m.1 x0 = some (.inr 3) ∧ x0 ≠ 0) (hOx1 : m.1 x1 = some (.inr 2) ∧ x1 ≠ 0)
    (h : ((((iF m x1 1) ≤ x4) → ((x3 = 0 ∨ x3 = 1) ∧ (Q (some (.int x3)) m))) ∧ (¬ ((iF m x1 1) ≤ x4) → (mEv d 45 [.ref x0, .ref x1, .int x2, .int x4] m (fun r m' => mEs d 44 b g44 (22, [some (.ref x0), some (.ref x1), some (.int x2), some (.int x3), some (.int x4)], r.toList ++ [], m') Q))))) :
    mEs d 44 b g44 (5, [some (.ref x0), some (.ref x1), some (.int x2), some (.int x3), some (.int x4)], [], m) Q := by
  refine e_iload (pc' := 7) (dAt D44 4 rfl) rfl rfl ?_
  refine e_aload_n (pc' := 8) (dAt D44 5 rfl) rfl rfl ?_
  refine e_getfield (pc' := 11) (dAt D44 6 rfl) rfl rfl hOx1 (hT.int hOx1 1 (by decide)) ?_
  refine e_icmp_ge (t := 58) (pc' := 14) (dAt D44 7 rfl) ⟨by decide, by decide⟩ rfl (fun c => ?_) (fun c => ?_)
  · replace h := h.1 c
    refine e_iload_n (pc' := 59) (dAt D44 32 rfl) rfl rfl ?_
    obtain ⟨f1, h⟩ := h
    exact e_ireturn (dAt D44 33 rfl) rfl ⟨nb01 f1, fun e => by cases e⟩ h
  · replace h := h.2 c
    refine e_aload_n (pc' := 15) (dAt D44 8 rfl) rfl rfl ?_
    refine e_aload_n (pc' := 16) (dAt D44 9 rfl) rfl rfl ?_
    refine e_iload_n (pc' := 17) (dAt D44 10 rfl) rfl rfl ?_
    refine e_iload (pc' := 19) (dAt D44 11 rfl) rfl rfl ?_
    exact e_call2 h (dAt D44 12 rfl) (hi0 rfl) rfl G45 (by decide) rfl (Nat.le_of_ble_eq_true rfl) (kV hOx0 rfl rfl) rfl rfl
-- PlaceNets$Cover.grow.(LPlaceNets$Net;I)Z, from 22
set_option maxRecDepth 20000 in
theorem bk44_22 {d b : Nat} {Q : Option Value → mMem → Prop} {m : mMem} {x0 : Nat} {x1 : Nat} {x2 : Int32} {x3 : Int32} {x4 : Int32} {y0 : Int32} (hT : mWT m) (hOx0 : m.1 x0 = some (.inr 3) ∧ x0 ≠ 0) (hOx1 : m.1 x1 = some (.inr 2) ∧ x1 ≠ 0)
    (h : (((y0 = 0) → (mEs d 44 b g44 (52, [some (.ref x0), some (.ref x1), some (.int x2), some (.int x3), some (.int x4)], [], m) Q)) ∧ (¬ (y0 = 0) → ((((iF m x0 1) < 200) → (mEv d 46 [.ref x0, .ref x1, .int x2, .int x4] m (fun r m' => mEs d 44 b g44 (52, [some (.ref x0), some (.ref x1), some (.int x2), some (.int 1), some (.int x4)], r.toList ++ [], m') Q))) ∧ (¬ ((iF m x0 1) < 200) → (∀ (m_1 : mMem), m_1 = (mSetF m x0 2 (.int 1)) → Q (some (.int 1)) m_1)))))) :
    mEs d 44 b g44 (22, [some (.ref x0), some (.ref x1), some (.int x2), some (.int x3), some (.int x4)], [.int y0], m) Q := by
  refine e_if_eq (t := 52) (pc' := 25) (dAt D44 13 rfl) ⟨by decide, by decide⟩ rfl (fun c => ?_) (fun c => ?_)
  · replace h := h.1 c
    exact h
  · replace h := h.2 c
    refine e_aload_n (pc' := 26) (dAt D44 14 rfl) rfl rfl ?_
    refine e_getfield (pc' := 29) (dAt D44 15 rfl) rfl rfl hOx0 (hT.int hOx0 1 (by decide)) ?_
    refine e_sipush (pc' := 32) (v := 200) (dAt D44 16 rfl) rfl (by decide) ?_
    refine e_icmp_lt (t := 42) (pc' := 35) (dAt D44 17 rfl) ⟨by decide, by decide⟩ rfl (fun c => ?_) (fun c => ?_)
    · replace h := h.1 c
      refine e_iconst (pc' := 43) (v := 1) (dAt D44 23 rfl) rfl (by decide) ?_
      refine e_istore_n (pc' := 44) (dAt D44 24 rfl) rfl (Nat.le_of_ble_eq_true rfl) rfl ?_
      refine e_aload_n (pc' := 45) (dAt D44 25 rfl) rfl rfl ?_
      refine e_aload_n (pc' := 46) (dAt D44 26 rfl) rfl rfl ?_
      refine e_iload_n (pc' := 47) (dAt D44 27 rfl) rfl rfl ?_
      refine e_iload (pc' := 49) (dAt D44 28 rfl) rfl rfl ?_
      exact e_call2 h (dAt D44 29 rfl) (hi0 rfl) rfl G46 (by decide) rfl (Nat.le_of_ble_eq_true rfl) (kV hOx0 rfl rfl) rfl rfl
    · replace h := h.2 c
      refine e_aload_n (pc' := 36) (dAt D44 18 rfl) rfl rfl ?_
      refine e_iconst (pc' := 37) (v := 1) (dAt D44 19 rfl) rfl (by decide) ?_
      replace h := h _ rfl
      refine e_putfield (pc' := 40) (dAt D44 20 rfl) rfl rfl hOx0 rfl rfl (fun e => by cases e) ?_
      refine wtF hT hOx0 (by decide) (fun hT_2 => ?_)
      refine e_iconst (pc' := 41) (v := 1) (dAt D44 21 rfl) rfl (by decide) ?_
      exact e_ireturn (dAt D44 22 rfl) rfl ⟨rfl, fun e => by cases e⟩ h
-- PlaceNets$Cover.grow.(LPlaceNets$Net;I)Z, from 52
set_option maxRecDepth 20000 in
theorem bk44_52 {d b : Nat} {Q : Option Value → mMem → Prop} {m : mMem} {x0 : Nat} {x1 : Nat} {x2 : Int32} {x3 : Int32} {x4 : Int32} (hT : mWT m) (hOx0 : m.1 x0 = some (.inr 3) ∧ x0 ≠ 0) (hOx1 : m.1 x1 = some (.inr 2) ∧ x1 ≠ 0)
    (h : ∀ (v_1 : Int32), v_1 = (x4 + 1) → mEs d 44 b g44 (5, [some (.ref x0), some (.ref x1), some (.int x2), some (.int x3), some (.int v_1)], [], m) Q) :
    mEs d 44 b g44 (52, [some (.ref x0), some (.ref x1), some (.int x2), some (.int x3), some (.int x4)], [], m) Q := by
  replace h := h _ rfl
  refine e_iinc (pc' := 55) (dAt D44 30 rfl) rfl rfl (Nat.le_of_ble_eq_true rfl) (congrArg (_ + ·) (show Int32.ofInt (1) = (1 : Int32) by decide)) rfl ?_
  refine e_goto (t := 5) (dAt D44 31 rfl) ⟨by decide, by decide⟩ ?_
  exact h
-- PlaceNets$Cover.isEnough.(LPlaceNets$Net;II)Z, from 0
set_option maxRecDepth 20000 in
theorem bk45_0 {d b : Nat} {Q : Option Value → mMem → Prop} {m : mMem} {x0 : Nat} {x1 : Nat} {x2 : Int32} {x3 : Int32} {x4 : Option Value} (hT : mWT m) (hOx0 : m.1 x0 = some (.inr 3) ∧ x0 ≠ 0) (hOx1 : m.1 x1 = some (.inr 2) ∧ x1 ≠ 0)
    (h : mEs d 45 b g45 (3, [some (.ref x0), some (.ref x1), some (.int x2), some (.int x3), some (.int 0)], [], m) Q) :
    mEs d 45 b g45 (0, [some (.ref x0), some (.ref x1), some (.int x2), some (.int x3), x4], [], m) Q := by
  refine e_iconst (pc' := 1) (v := 0) (dAt D45 0 rfl) rfl (by decide) ?_
  refine e_istore (pc' := 3) (dAt D45 1 rfl) rfl (Nat.le_of_ble_eq_true rfl) rfl ?_
  exact h
-- PlaceNets$Cover.isEnough.(LPlaceNets$Net;II)Z, from 3
set_option maxRecDepth 20000 in
theorem bk45_3 {d b : Nat} {Q : Option Value → mMem → Prop} {m : mMem} {x0 : Nat} {x1 : Nat} {x2 : Int32} {x3 : Int32} {x4 : Int32} (hT : mWT m) (hOx0 : m.1 x0 = some (.inr 3) ∧ x0 ≠ 0) (hOx1 : m.1 x1 = some (.inr 2) ∧ x1 ≠ 0)
    (h : ((((iF m x0 7) ≤ x4) → (Q (some (.int 1)) m)) ∧ (¬ ((iF m x0 7) ≤ x4) → ((mIn ((x2 * 10) + x4) 2000 = true) ∧ ((mIn ((x3 * 10) + x4) 110 = true) ∧ ((((m.2.2.1 (64 * x1 + 2) ((x3 * 10) + x4).toNatClampNeg) ≤ (m.2.2.1 (64 * x0 + 1) ((x2 * 10) + x4).toNatClampNeg)) → (∀ (v_1 : Int32), v_1 = (x4 + 1) → mEs d 45 b g45 (3, [some (.ref x0), some (.ref x1), some (.int x2), some (.int x3), some (.int v_1)], [], m) Q)) ∧ (¬ ((m.2.2.1 (64 * x1 + 2) ((x3 * 10) + x4).toNatClampNeg) ≤ (m.2.2.1 (64 * x0 + 1) ((x2 * 10) + x4).toNatClampNeg)) → (Q (some (.int 0)) m)))))))) :
    mEs d 45 b g45 (3, [some (.ref x0), some (.ref x1), some (.int x2), some (.int x3), some (.int x4)], [], m) Q := by
  refine e_iload (pc' := 5) (dAt D45 2 rfl) rfl rfl ?_
  refine e_aload_n (pc' := 6) (dAt D45 3 rfl) rfl rfl ?_
  refine e_getfield (pc' := 9) (dAt D45 4 rfl) rfl rfl hOx0 (hT.int hOx0 7 (by decide)) ?_
  refine e_icmp_ge (t := 47) (pc' := 12) (dAt D45 5 rfl) ⟨by decide, by decide⟩ rfl (fun c => ?_) (fun c => ?_)
  · replace h := h.1 c
    refine e_iconst (pc' := 48) (v := 1) (dAt D45 27 rfl) rfl (by decide) ?_
    exact e_ireturn (dAt D45 28 rfl) rfl ⟨rfl, fun e => by cases e⟩ h
  · replace h := h.2 c
    refine e_aload_n (pc' := 13) (dAt D45 6 rfl) rfl rfl ?_
    refine e_getfield (pc' := 16) (dAt D45 7 rfl) rfl rfl hOx0 (hT.own hOx0 0 rfl) ?_
    refine e_iload_n (pc' := 17) (dAt D45 8 rfl) rfl rfl ?_
    refine e_bipush (pc' := 19) (v := 10) (dAt D45 9 rfl) rfl (by decide) ?_
    refine e_imul (pc' := 20) (dAt D45 10 rfl) rfl ?_
    refine e_iload (pc' := 22) (dAt D45 11 rfl) rfl rfl ?_
    refine e_iadd (pc' := 23) (dAt D45 12 rfl) rfl ?_
    obtain ⟨f1, h⟩ := h
    refine e_iaload (pc' := 24) (dAt D45 13 rfl) rfl (hT.arr hOx0 0 rfl (by decide)).1 (Or.inl (hT.arr hOx0 0 rfl (by decide)).2) f1 rfl ?_
    refine e_aload_n (pc' := 25) (dAt D45 14 rfl) rfl rfl ?_
    refine e_getfield (pc' := 28) (dAt D45 15 rfl) rfl rfl hOx1 (hT.own hOx1 1 rfl) ?_
    refine e_iload_n (pc' := 29) (dAt D45 16 rfl) rfl rfl ?_
    refine e_bipush (pc' := 31) (v := 10) (dAt D45 17 rfl) rfl (by decide) ?_
    refine e_imul (pc' := 32) (dAt D45 18 rfl) rfl ?_
    refine e_iload (pc' := 34) (dAt D45 19 rfl) rfl rfl ?_
    refine e_iadd (pc' := 35) (dAt D45 20 rfl) rfl ?_
    obtain ⟨f1, h⟩ := h
    refine e_iaload (pc' := 36) (dAt D45 21 rfl) rfl (hT.arr hOx1 1 rfl (by decide)).1 (Or.inl (hT.arr hOx1 1 rfl (by decide)).2) f1 rfl ?_
    refine e_icmp_ge (t := 41) (pc' := 39) (dAt D45 22 rfl) ⟨by decide, by decide⟩ rfl (fun c => ?_) (fun c => ?_)
    · replace h := h.1 c
      replace h := h _ rfl
      refine e_iinc (pc' := 44) (dAt D45 25 rfl) rfl rfl (Nat.le_of_ble_eq_true rfl) (congrArg (_ + ·) (show Int32.ofInt (1) = (1 : Int32) by decide)) rfl ?_
      refine e_goto (t := 3) (dAt D45 26 rfl) ⟨by decide, by decide⟩ ?_
      exact h
    · replace h := h.2 c
      refine e_iconst (pc' := 40) (v := 0) (dAt D45 23 rfl) rfl (by decide) ?_
      exact e_ireturn (dAt D45 24 rfl) rfl ⟨rfl, fun e => by cases e⟩ h
-- PlaceNets$Cover.addNode.(LPlaceNets$Net;II)V, from 0
set_option maxRecDepth 20000 in
theorem bk46_0 {d b : Nat} {Q : Option Value → mMem → Prop} {m : mMem} {x0 : Nat} {x1 : Nat} {x2 : Int32} {x3 : Int32} {x4 : Option Value} {x5 : Option Value} (hT : mWT m) (hOx0 : m.1 x0 = some (.inr 3) ∧ x0 ≠ 0) (hOx1 : m.1 x1 = some (.inr 2) ∧ x1 ≠ 0)
    (h : mEs d 46 b g46 (3, [some (.ref x0), some (.ref x1), some (.int x2), some (.int x3), some (.int 0), x5], [], m) Q) :
    mEs d 46 b g46 (0, [some (.ref x0), some (.ref x1), some (.int x2), some (.int x3), x4, x5], [], m) Q := by
  refine e_iconst (pc' := 1) (v := 0) (dAt D46 0 rfl) rfl (by decide) ?_
  refine e_istore (pc' := 3) (dAt D46 1 rfl) rfl (Nat.le_of_ble_eq_true rfl) rfl ?_
  exact h
-- PlaceNets$Cover.addNode.(LPlaceNets$Net;II)V, from 3
set_option maxRecDepth 20000 in
theorem bk46_3 {d b : Nat} {Q : Option Value → mMem → Prop} {m : mMem} {x0 : Nat} {x1 : Nat} {x2 : Int32} {x3 : Int32} {x4 : Int32} {x5 : Option Value} (hT : mWT m) (hOx0 : m.1 x0 = some (.inr 3) ∧ x0 ≠ 0) (hOx1 : m.1 x1 = some (.inr 2) ∧ x1 ≠ 0)
    (h : ((((iF m x0 7) ≤ x4) → ((mIn (iF m x0 1) 200 = true) ∧ (∀ (m_1 : mMem), m_1 = (mSetI m (64 * x0 + 2) (upd (m.2.2.1 (64 * x0 + 2)) (iF m x0 1).toNatClampNeg x2)) → (mIn (iF m_1 x0 1) 200 = true) ∧ (∀ (m_3 : mMem), m_3 = (mSetI m_1 (64 * x0 + 3) (upd (m_1.2.2.1 (64 * x0 + 3)) (iF m_1 x0 1).toNatClampNeg x3)) → mEs d 46 b g46 (95, [some (.ref x0), some (.ref x1), some (.int x2), some (.int x3), some (.int x2), some (.int 0)], [], m_3) Q)))) ∧ (¬ ((iF m x0 7) ≤ x4) → ((mIn ((x2 * 10) + x4) 2000 = true) ∧ (∀ (v_5 : Int32), v_5 = (m.2.2.1 (64 * x0 + 1) ((x2 * 10) + x4).toNatClampNeg) → (((¬ v_5 = 1000000) → (mEv d 28 [.ref x1, .int x3, .int x4] m (fun r m' => mEs d 46 b g46 (61, [some (.ref x0), some (.ref x1), some (.int x2), some (.int x3), some (.int x4), some (.int v_5)], r.toList ++ [.int v_5, .int (((iF m x0 1) * 10) + x4), .ref (64 * x0 + 1)], m') Q))) ∧ (¬ (¬ v_5 = 1000000) → ((mIn (((iF m x0 1) * 10) + x4) 2000 = true) ∧ (∀ (m_6 : mMem), m_6 = (mSetI m (64 * x0 + 1) (upd (m.2.2.1 (64 * x0 + 1)) (((iF m x0 1) * 10) + x4).toNatClampNeg 1000000)) → ∀ (v_8 : Int32), v_8 = (x4 + 1) → mEs d 46 b g46 (3, [some (.ref x0), some (.ref x1), some (.int x2), some (.int x3), some (.int v_8), some (.int v_5)], [], m_6) Q))))))))) :
    mEs d 46 b g46 (3, [some (.ref x0), some (.ref x1), some (.int x2), some (.int x3), some (.int x4), x5], [], m) Q := by
  refine e_iload (pc' := 5) (dAt D46 2 rfl) rfl rfl ?_
  refine e_aload_n (pc' := 6) (dAt D46 3 rfl) rfl rfl ?_
  refine e_getfield (pc' := 9) (dAt D46 4 rfl) rfl rfl hOx0 (hT.int hOx0 7 (by decide)) ?_
  refine e_icmp_ge (t := 69) (pc' := 12) (dAt D46 5 rfl) ⟨by decide, by decide⟩ rfl (fun c => ?_) (fun c => ?_)
  · replace h := h.1 c
    refine e_aload_n (pc' := 70) (dAt D46 37 rfl) rfl rfl ?_
    refine e_getfield (pc' := 73) (dAt D46 38 rfl) rfl rfl hOx0 (hT.own hOx0 1 rfl) ?_
    refine e_aload_n (pc' := 74) (dAt D46 39 rfl) rfl rfl ?_
    refine e_getfield (pc' := 77) (dAt D46 40 rfl) rfl rfl hOx0 (hT.int hOx0 1 (by decide)) ?_
    refine e_iload_n (pc' := 78) (dAt D46 41 rfl) rfl rfl ?_
    obtain ⟨f1, h⟩ := h
    replace h := h _ rfl
    refine e_iastore (pc' := 79) (dAt D46 42 rfl) rfl (hT.arr hOx0 1 rfl (by decide)).1 (hT.arr hOx0 1 rfl (by decide)).2 f1 (nar_i _) ?_
    refine wtI hT (fun hT_2 => ?_)
    refine e_aload_n (pc' := 80) (dAt D46 43 rfl) rfl rfl ?_
    refine e_getfield (pc' := 83) (dAt D46 44 rfl) rfl rfl hOx0 (hT_2.own hOx0 2 rfl) ?_
    refine e_aload_n (pc' := 84) (dAt D46 45 rfl) rfl rfl ?_
    refine e_getfield (pc' := 87) (dAt D46 46 rfl) rfl rfl hOx0 (hT_2.int hOx0 1 (by decide)) ?_
    refine e_iload_n (pc' := 88) (dAt D46 47 rfl) rfl rfl ?_
    obtain ⟨f1, h⟩ := h
    replace h := h _ rfl
    refine e_iastore (pc' := 89) (dAt D46 48 rfl) rfl (hT_2.arr hOx0 2 rfl (by decide)).1 (hT_2.arr hOx0 2 rfl (by decide)).2 f1 (nar_i _) ?_
    refine wtI hT_2 (fun hT_4 => ?_)
    refine e_iload_n (pc' := 90) (dAt D46 49 rfl) rfl rfl ?_
    refine e_istore (pc' := 92) (dAt D46 50 rfl) rfl (Nat.le_of_ble_eq_true rfl) rfl ?_
    refine e_iconst (pc' := 93) (v := 0) (dAt D46 51 rfl) rfl (by decide) ?_
    refine e_istore (pc' := 95) (dAt D46 52 rfl) rfl (Nat.le_of_ble_eq_true rfl) rfl ?_
    exact h
  · replace h := h.2 c
    refine e_aload_n (pc' := 13) (dAt D46 6 rfl) rfl rfl ?_
    refine e_getfield (pc' := 16) (dAt D46 7 rfl) rfl rfl hOx0 (hT.own hOx0 0 rfl) ?_
    refine e_iload_n (pc' := 17) (dAt D46 8 rfl) rfl rfl ?_
    refine e_bipush (pc' := 19) (v := 10) (dAt D46 9 rfl) rfl (by decide) ?_
    refine e_imul (pc' := 20) (dAt D46 10 rfl) rfl ?_
    refine e_iload (pc' := 22) (dAt D46 11 rfl) rfl rfl ?_
    refine e_iadd (pc' := 23) (dAt D46 12 rfl) rfl ?_
    obtain ⟨f1, h⟩ := h
    refine e_iaload (pc' := 24) (dAt D46 13 rfl) rfl (hT.arr hOx0 0 rfl (by decide)).1 (Or.inl (hT.arr hOx0 0 rfl (by decide)).2) f1 rfl ?_
    replace h := h _ rfl
    refine e_istore (pc' := 26) (dAt D46 14 rfl) rfl (Nat.le_of_ble_eq_true rfl) rfl ?_
    refine e_aload_n (pc' := 27) (dAt D46 15 rfl) rfl rfl ?_
    refine e_getfield (pc' := 30) (dAt D46 16 rfl) rfl rfl hOx0 (hT.own hOx0 0 rfl) ?_
    refine e_aload_n (pc' := 31) (dAt D46 17 rfl) rfl rfl ?_
    refine e_getfield (pc' := 34) (dAt D46 18 rfl) rfl rfl hOx0 (hT.int hOx0 1 (by decide)) ?_
    refine e_bipush (pc' := 36) (v := 10) (dAt D46 19 rfl) rfl (by decide) ?_
    refine e_imul (pc' := 37) (dAt D46 20 rfl) rfl ?_
    refine e_iload (pc' := 39) (dAt D46 21 rfl) rfl rfl ?_
    refine e_iadd (pc' := 40) (dAt D46 22 rfl) rfl ?_
    refine e_iload (pc' := 42) (dAt D46 23 rfl) rfl rfl ?_
    refine e_ldc (pc' := 44) (dAt D46 24 rfl) rfl rfl ?_
    refine e_icmp_ne (t := 52) (pc' := 47) (dAt D46 25 rfl) ⟨by decide, by decide⟩ rfl (fun c => ?_) (fun c => ?_)
    · replace h := h.1 c
      refine e_iload (pc' := 54) (dAt D46 28 rfl) rfl rfl ?_
      refine e_aload_n (pc' := 55) (dAt D46 29 rfl) rfl rfl ?_
      refine e_iload_n (pc' := 56) (dAt D46 30 rfl) rfl rfl ?_
      refine e_iload (pc' := 58) (dAt D46 31 rfl) rfl rfl ?_
      exact e_call2 h (dAt D46 32 rfl) (hi0 rfl) rfl G28 (by decide) rfl (Nat.le_of_ble_eq_true rfl) (kV hOx1 rfl rfl) rfl rfl
    · replace h := h.2 c
      refine e_ldc (pc' := 49) (dAt D46 26 rfl) rfl rfl ?_
      refine e_goto (t := 62) (dAt D46 27 rfl) ⟨by decide, by decide⟩ ?_
      obtain ⟨f1, h⟩ := h
      replace h := h _ rfl
      refine e_iastore (pc' := 63) (dAt D46 34 rfl) rfl (hT.arr hOx0 0 rfl (by decide)).1 (hT.arr hOx0 0 rfl (by decide)).2 f1 (nar_i _) ?_
      refine wtI hT (fun hT_7 => ?_)
      replace h := h _ rfl
      refine e_iinc (pc' := 66) (dAt D46 35 rfl) rfl rfl (Nat.le_of_ble_eq_true rfl) (congrArg (_ + ·) (show Int32.ofInt (1) = (1 : Int32) by decide)) rfl ?_
      refine e_goto (t := 3) (dAt D46 36 rfl) ⟨by decide, by decide⟩ ?_
      exact h
-- PlaceNets$Cover.addNode.(LPlaceNets$Net;II)V, from 61
set_option maxRecDepth 20000 in
theorem bk46_61 {d b : Nat} {Q : Option Value → mMem → Prop} {m : mMem} {x0 : Nat} {x1 : Nat} {x2 : Int32} {x3 : Int32} {x4 : Int32} {x5 : Int32} {y0 : Nat} {ly0 : Nat} {y1 : Int32} {y2 : Int32} {y3 : Int32} (hT : mWT m) (hOx0 : m.1 x0 = some (.inr 3) ∧ x0 ≠ 0) (hOx1 : m.1 x1 = some (.inr 2) ∧ x1 ≠ 0) (hAy0 : m.1 y0 = some (.inl (.int, ly0)) ∧ y0 ≠ 0)
    (h : (mIn y1 ly0 = true) ∧ (∀ (m_1 : mMem), m_1 = (mSetI m y0 (upd (m.2.2.1 y0) y1.toNatClampNeg (y2 + y3))) → ∀ (v_3 : Int32), v_3 = (x4 + 1) → mEs d 46 b g46 (3, [some (.ref x0), some (.ref x1), some (.int x2), some (.int x3), some (.int v_3), some (.int x5)], [], m_1) Q)) :
    mEs d 46 b g46 (61, [some (.ref x0), some (.ref x1), some (.int x2), some (.int x3), some (.int x4), some (.int x5)], [.int y3, .int y2, .int y1, .ref y0], m) Q := by
  refine e_iadd (pc' := 62) (dAt D46 33 rfl) rfl ?_
  obtain ⟨f1, h⟩ := h
  replace h := h _ rfl
  refine e_iastore (pc' := 63) (dAt D46 34 rfl) rfl hAy0.1 hAy0.2 f1 (nar_i _) ?_
  refine wtI hT (fun hT_2 => ?_)
  replace h := h _ rfl
  refine e_iinc (pc' := 66) (dAt D46 35 rfl) rfl rfl (Nat.le_of_ble_eq_true rfl) (congrArg (_ + ·) (show Int32.ofInt (1) = (1 : Int32) by decide)) rfl ?_
  refine e_goto (t := 3) (dAt D46 36 rfl) ⟨by decide, by decide⟩ ?_
  exact h
-- PlaceNets$Cover.addNode.(LPlaceNets$Net;II)V, from 95
set_option maxRecDepth 20000 in
theorem bk46_95 {d b : Nat} {Q : Option Value → mMem → Prop} {m : mMem} {x0 : Nat} {x1 : Nat} {x2 : Int32} {x3 : Int32} {x4 : Int32} {x5 : Int32} (hT : mWT m) (hOx0 : m.1 x0 = some (.inr 3) ∧ x0 ≠ 0) (hOx1 : m.1 x1 = some (.inr 2) ∧ x1 ≠ 0)
    (h : (((200 ≤ x5) → (∀ (m_1 : mMem), m_1 = (mSetF m x0 1 (.int ((iF m x0 1) + 1))) → Q none m_1)) ∧ (¬ (200 ≤ x5) → (((x4 = ((-1))) → (∀ (m_3 : mMem), m_3 = (mSetF m x0 1 (.int ((iF m x0 1) + 1))) → Q none m_3)) ∧ (¬ (x4 = ((-1))) → (mEv d 47 [.ref x0, .int x4, .int (iF m x0 1)] m (fun r m' => mEs d 46 b g46 (119, [some (.ref x0), some (.ref x1), some (.int x2), some (.int x3), some (.int x4), some (.int x5)], r.toList ++ [], m') Q))))))) :
    mEs d 46 b g46 (95, [some (.ref x0), some (.ref x1), some (.int x2), some (.int x3), some (.int x4), some (.int x5)], [], m) Q := by
  refine e_iload (pc' := 97) (dAt D46 53 rfl) rfl rfl ?_
  refine e_sipush (pc' := 100) (v := 200) (dAt D46 54 rfl) rfl (by decide) ?_
  refine e_icmp_ge (t := 147) (pc' := 103) (dAt D46 55 rfl) ⟨by decide, by decide⟩ rfl (fun c => ?_) (fun c => ?_)
  · replace h := h.1 c
    refine e_aload_n (pc' := 148) (dAt D46 77 rfl) rfl rfl ?_
    refine e_dup (pc' := 149) (dAt D46 78 rfl) rfl rfl ?_
    refine e_getfield (pc' := 152) (dAt D46 79 rfl) rfl rfl hOx0 (hT.int hOx0 1 (by decide)) ?_
    refine e_iconst (pc' := 153) (v := 1) (dAt D46 80 rfl) rfl (by decide) ?_
    refine e_iadd (pc' := 154) (dAt D46 81 rfl) rfl ?_
    replace h := h _ rfl
    refine e_putfield (pc' := 157) (dAt D46 82 rfl) rfl rfl hOx0 rfl rfl (fun e => by cases e) ?_
    refine wtF hT hOx0 (by decide) (fun hT_2 => ?_)
    exact e_return (dAt D46 83 rfl) rfl h
  · replace h := h.2 c
    refine e_iload (pc' := 105) (dAt D46 56 rfl) rfl rfl ?_
    refine e_iconst (pc' := 106) (v := (-1)) (dAt D46 57 rfl) rfl (by decide) ?_
    refine e_icmp_eq (t := 147) (pc' := 109) (dAt D46 58 rfl) ⟨by decide, by decide⟩ rfl (fun c => ?_) (fun c => ?_)
    · replace h := h.1 c
      refine e_aload_n (pc' := 148) (dAt D46 77 rfl) rfl rfl ?_
      refine e_dup (pc' := 149) (dAt D46 78 rfl) rfl rfl ?_
      refine e_getfield (pc' := 152) (dAt D46 79 rfl) rfl rfl hOx0 (hT.int hOx0 1 (by decide)) ?_
      refine e_iconst (pc' := 153) (v := 1) (dAt D46 80 rfl) rfl (by decide) ?_
      refine e_iadd (pc' := 154) (dAt D46 81 rfl) rfl ?_
      replace h := h _ rfl
      refine e_putfield (pc' := 157) (dAt D46 82 rfl) rfl rfl hOx0 rfl rfl (fun e => by cases e) ?_
      refine wtF hT hOx0 (by decide) (fun hT_4 => ?_)
      exact e_return (dAt D46 83 rfl) rfl h
    · replace h := h.2 c
      refine e_aload_n (pc' := 110) (dAt D46 59 rfl) rfl rfl ?_
      refine e_iload (pc' := 112) (dAt D46 60 rfl) rfl rfl ?_
      refine e_aload_n (pc' := 113) (dAt D46 61 rfl) rfl rfl ?_
      refine e_getfield (pc' := 116) (dAt D46 62 rfl) rfl rfl hOx0 (hT.int hOx0 1 (by decide)) ?_
      exact e_call2 h (dAt D46 63 rfl) (hi0 rfl) rfl G47 (by decide) rfl (Nat.le_of_ble_eq_true rfl) (kV hOx0 rfl rfl) rfl rfl
-- PlaceNets$Cover.addNode.(LPlaceNets$Net;II)V, from 119
set_option maxRecDepth 20000 in
theorem bk46_119 {d b : Nat} {Q : Option Value → mMem → Prop} {m : mMem} {x0 : Nat} {x1 : Nat} {x2 : Int32} {x3 : Int32} {x4 : Int32} {x5 : Int32} {y0 : Int32} (hT : mWT m) (hOx0 : m.1 x0 = some (.inr 3) ∧ x0 ≠ 0) (hOx1 : m.1 x1 = some (.inr 2) ∧ x1 ≠ 0)
    (h : (((y0 = 0) → (mEs d 46 b g46 (132, [some (.ref x0), some (.ref x1), some (.int x2), some (.int x3), some (.int x4), some (.int x5)], [], m) Q)) ∧ (¬ (y0 = 0) → (mEv d 48 [.ref x0, .int x4, .int (iF m x0 1)] m (fun r m' => mEs d 46 b g46 (132, [some (.ref x0), some (.ref x1), some (.int x2), some (.int x3), some (.int x4), some (.int x5)], r.toList ++ [], m') Q))))) :
    mEs d 46 b g46 (119, [some (.ref x0), some (.ref x1), some (.int x2), some (.int x3), some (.int x4), some (.int x5)], [.int y0], m) Q := by
  refine e_if_eq (t := 132) (pc' := 122) (dAt D46 64 rfl) ⟨by decide, by decide⟩ rfl (fun c => ?_) (fun c => ?_)
  · replace h := h.1 c
    exact h
  · replace h := h.2 c
    refine e_aload_n (pc' := 123) (dAt D46 65 rfl) rfl rfl ?_
    refine e_iload (pc' := 125) (dAt D46 66 rfl) rfl rfl ?_
    refine e_aload_n (pc' := 126) (dAt D46 67 rfl) rfl rfl ?_
    refine e_getfield (pc' := 129) (dAt D46 68 rfl) rfl rfl hOx0 (hT.int hOx0 1 (by decide)) ?_
    exact e_call2 h (dAt D46 69 rfl) (hi0 rfl) rfl G48 (by decide) rfl (Nat.le_of_ble_eq_true rfl) (kV hOx0 rfl rfl) rfl rfl
-- PlaceNets$Cover.addNode.(LPlaceNets$Net;II)V, from 132
set_option maxRecDepth 20000 in
theorem bk46_132 {d b : Nat} {Q : Option Value → mMem → Prop} {m : mMem} {x0 : Nat} {x1 : Nat} {x2 : Int32} {x3 : Int32} {x4 : Int32} {x5 : Int32} (hT : mWT m) (hOx0 : m.1 x0 = some (.inr 3) ∧ x0 ≠ 0) (hOx1 : m.1 x1 = some (.inr 2) ∧ x1 ≠ 0)
    (h : (mIn x4 200 = true) ∧ (∀ (v_1 : Int32), v_1 = (m.2.2.1 (64 * x0 + 2) x4.toNatClampNeg) → ∀ (v_2 : Int32), v_2 = (x5 + 1) → mEs d 46 b g46 (95, [some (.ref x0), some (.ref x1), some (.int x2), some (.int x3), some (.int v_1), some (.int v_2)], [], m) Q)) :
    mEs d 46 b g46 (132, [some (.ref x0), some (.ref x1), some (.int x2), some (.int x3), some (.int x4), some (.int x5)], [], m) Q := by
  refine e_aload_n (pc' := 133) (dAt D46 70 rfl) rfl rfl ?_
  refine e_getfield (pc' := 136) (dAt D46 71 rfl) rfl rfl hOx0 (hT.own hOx0 1 rfl) ?_
  refine e_iload (pc' := 138) (dAt D46 72 rfl) rfl rfl ?_
  obtain ⟨f1, h⟩ := h
  refine e_iaload (pc' := 139) (dAt D46 73 rfl) rfl (hT.arr hOx0 1 rfl (by decide)).1 (Or.inl (hT.arr hOx0 1 rfl (by decide)).2) f1 rfl ?_
  replace h := h _ rfl
  refine e_istore (pc' := 141) (dAt D46 74 rfl) rfl (Nat.le_of_ble_eq_true rfl) rfl ?_
  replace h := h _ rfl
  refine e_iinc (pc' := 144) (dAt D46 75 rfl) rfl rfl (Nat.le_of_ble_eq_true rfl) (congrArg (_ + ·) (show Int32.ofInt (1) = (1 : Int32) by decide)) rfl ?_
  refine e_goto (t := 95) (dAt D46 76 rfl) ⟨by decide, by decide⟩ ?_
  exact h
-- PlaceNets$Cover.isWithin.(II)Z, from 0
set_option maxRecDepth 20000 in
theorem bk47_0 {d b : Nat} {Q : Option Value → mMem → Prop} {m : mMem} {x0 : Nat} {x1 : Int32} {x2 : Int32} {x3 : Option Value} (hT : mWT m) (hOx0 : m.1 x0 = some (.inr 3) ∧ x0 ≠ 0)
    (h : mEs d 47 b g47 (2, [some (.ref x0), some (.int x1), some (.int x2), some (.int 0)], [], m) Q) :
    mEs d 47 b g47 (0, [some (.ref x0), some (.int x1), some (.int x2), x3], [], m) Q := by
  refine e_iconst (pc' := 1) (v := 0) (dAt D47 0 rfl) rfl (by decide) ?_
  refine e_istore_n (pc' := 2) (dAt D47 1 rfl) rfl (Nat.le_of_ble_eq_true rfl) rfl ?_
  exact h
-- PlaceNets$Cover.isWithin.(II)Z, from 2
set_option maxRecDepth 20000 in
theorem bk47_2 {d b : Nat} {Q : Option Value → mMem → Prop} {m : mMem} {x0 : Nat} {x1 : Int32} {x2 : Int32} {x3 : Int32} (hT : mWT m) (hOx0 : m.1 x0 = some (.inr 3) ∧ x0 ≠ 0)
    (h : ((((iF m x0 7) ≤ x3) → (Q (some (.int 1)) m)) ∧ (¬ ((iF m x0 7) ≤ x3) → ((mIn ((x1 * 10) + x3) 2000 = true) ∧ ((mIn ((x2 * 10) + x3) 2000 = true) ∧ ((((m.2.2.1 (64 * x0 + 1) ((x1 * 10) + x3).toNatClampNeg) ≤ (m.2.2.1 (64 * x0 + 1) ((x2 * 10) + x3).toNatClampNeg)) → (∀ (v_1 : Int32), v_1 = (x3 + 1) → mEs d 47 b g47 (2, [some (.ref x0), some (.int x1), some (.int x2), some (.int v_1)], [], m) Q)) ∧ (¬ ((m.2.2.1 (64 * x0 + 1) ((x1 * 10) + x3).toNatClampNeg) ≤ (m.2.2.1 (64 * x0 + 1) ((x2 * 10) + x3).toNatClampNeg)) → (Q (some (.int 0)) m)))))))) :
    mEs d 47 b g47 (2, [some (.ref x0), some (.int x1), some (.int x2), some (.int x3)], [], m) Q := by
  refine e_iload_n (pc' := 3) (dAt D47 2 rfl) rfl rfl ?_
  refine e_aload_n (pc' := 4) (dAt D47 3 rfl) rfl rfl ?_
  refine e_getfield (pc' := 7) (dAt D47 4 rfl) rfl rfl hOx0 (hT.int hOx0 7 (by decide)) ?_
  refine e_icmp_ge (t := 43) (pc' := 10) (dAt D47 5 rfl) ⟨by decide, by decide⟩ rfl (fun c => ?_) (fun c => ?_)
  · replace h := h.1 c
    refine e_iconst (pc' := 44) (v := 1) (dAt D47 27 rfl) rfl (by decide) ?_
    exact e_ireturn (dAt D47 28 rfl) rfl ⟨rfl, fun e => by cases e⟩ h
  · replace h := h.2 c
    refine e_aload_n (pc' := 11) (dAt D47 6 rfl) rfl rfl ?_
    refine e_getfield (pc' := 14) (dAt D47 7 rfl) rfl rfl hOx0 (hT.own hOx0 0 rfl) ?_
    refine e_iload_n (pc' := 15) (dAt D47 8 rfl) rfl rfl ?_
    refine e_bipush (pc' := 17) (v := 10) (dAt D47 9 rfl) rfl (by decide) ?_
    refine e_imul (pc' := 18) (dAt D47 10 rfl) rfl ?_
    refine e_iload_n (pc' := 19) (dAt D47 11 rfl) rfl rfl ?_
    refine e_iadd (pc' := 20) (dAt D47 12 rfl) rfl ?_
    obtain ⟨f1, h⟩ := h
    refine e_iaload (pc' := 21) (dAt D47 13 rfl) rfl (hT.arr hOx0 0 rfl (by decide)).1 (Or.inl (hT.arr hOx0 0 rfl (by decide)).2) f1 rfl ?_
    refine e_aload_n (pc' := 22) (dAt D47 14 rfl) rfl rfl ?_
    refine e_getfield (pc' := 25) (dAt D47 15 rfl) rfl rfl hOx0 (hT.own hOx0 0 rfl) ?_
    refine e_iload_n (pc' := 26) (dAt D47 16 rfl) rfl rfl ?_
    refine e_bipush (pc' := 28) (v := 10) (dAt D47 17 rfl) rfl (by decide) ?_
    refine e_imul (pc' := 29) (dAt D47 18 rfl) rfl ?_
    refine e_iload_n (pc' := 30) (dAt D47 19 rfl) rfl rfl ?_
    refine e_iadd (pc' := 31) (dAt D47 20 rfl) rfl ?_
    obtain ⟨f1, h⟩ := h
    refine e_iaload (pc' := 32) (dAt D47 21 rfl) rfl (hT.arr hOx0 0 rfl (by decide)).1 (Or.inl (hT.arr hOx0 0 rfl (by decide)).2) f1 rfl ?_
    refine e_icmp_le (t := 37) (pc' := 35) (dAt D47 22 rfl) ⟨by decide, by decide⟩ rfl (fun c => ?_) (fun c => ?_)
    · replace h := h.1 c
      replace h := h _ rfl
      refine e_iinc (pc' := 40) (dAt D47 25 rfl) rfl rfl (Nat.le_of_ble_eq_true rfl) (congrArg (_ + ·) (show Int32.ofInt (1) = (1 : Int32) by decide)) rfl ?_
      refine e_goto (t := 2) (dAt D47 26 rfl) ⟨by decide, by decide⟩ ?_
      exact h
    · replace h := h.2 c
      refine e_iconst (pc' := 36) (v := 0) (dAt D47 23 rfl) rfl (by decide) ?_
      exact e_ireturn (dAt D47 24 rfl) rfl ⟨rfl, fun e => by cases e⟩ h
-- PlaceNets$Cover.raise.(II)V, from 0
set_option maxRecDepth 20000 in
theorem bk48_0 {d b : Nat} {Q : Option Value → mMem → Prop} {m : mMem} {x0 : Nat} {x1 : Int32} {x2 : Int32} {x3 : Option Value} (hT : mWT m) (hOx0 : m.1 x0 = some (.inr 3) ∧ x0 ≠ 0)
    (h : mEs d 48 b g48 (2, [some (.ref x0), some (.int x1), some (.int x2), some (.int 0)], [], m) Q) :
    mEs d 48 b g48 (0, [some (.ref x0), some (.int x1), some (.int x2), x3], [], m) Q := by
  refine e_iconst (pc' := 1) (v := 0) (dAt D48 0 rfl) rfl (by decide) ?_
  refine e_istore_n (pc' := 2) (dAt D48 1 rfl) rfl (Nat.le_of_ble_eq_true rfl) rfl ?_
  exact h
-- PlaceNets$Cover.raise.(II)V, from 2
set_option maxRecDepth 20000 in
theorem bk48_2 {d b : Nat} {Q : Option Value → mMem → Prop} {m : mMem} {x0 : Nat} {x1 : Int32} {x2 : Int32} {x3 : Int32} (hT : mWT m) (hOx0 : m.1 x0 = some (.inr 3) ∧ x0 ≠ 0)
    (h : ((((iF m x0 7) ≤ x3) → (Q none m)) ∧ (¬ ((iF m x0 7) ≤ x3) → ((mIn ((x1 * 10) + x3) 2000 = true) ∧ ((mIn ((x2 * 10) + x3) 2000 = true) ∧ ((((m.2.2.1 (64 * x0 + 1) ((x2 * 10) + x3).toNatClampNeg) ≤ (m.2.2.1 (64 * x0 + 1) ((x1 * 10) + x3).toNatClampNeg)) → (∀ (v_1 : Int32), v_1 = (x3 + 1) → mEs d 48 b g48 (2, [some (.ref x0), some (.int x1), some (.int x2), some (.int v_1)], [], m) Q)) ∧ (¬ ((m.2.2.1 (64 * x0 + 1) ((x2 * 10) + x3).toNatClampNeg) ≤ (m.2.2.1 (64 * x0 + 1) ((x1 * 10) + x3).toNatClampNeg)) → ((mIn ((x2 * 10) + x3) 2000 = true) ∧ (∀ (m_2 : mMem), m_2 = (mSetI m (64 * x0 + 1) (upd (m.2.2.1 (64 * x0 + 1)) ((x2 * 10) + x3).toNatClampNeg 1000000)) → ∀ (v_4 : Int32), v_4 = (x3 + 1) → mEs d 48 b g48 (2, [some (.ref x0), some (.int x1), some (.int x2), some (.int v_4)], [], m_2) Q))))))))) :
    mEs d 48 b g48 (2, [some (.ref x0), some (.int x1), some (.int x2), some (.int x3)], [], m) Q := by
  refine e_iload_n (pc' := 3) (dAt D48 2 rfl) rfl rfl ?_
  refine e_aload_n (pc' := 4) (dAt D48 3 rfl) rfl rfl ?_
  refine e_getfield (pc' := 7) (dAt D48 4 rfl) rfl rfl hOx0 (hT.int hOx0 7 (by decide)) ?_
  refine e_icmp_ge (t := 54) (pc' := 10) (dAt D48 5 rfl) ⟨by decide, by decide⟩ rfl (fun c => ?_) (fun c => ?_)
  · replace h := h.1 c
    exact e_return (dAt D48 34 rfl) rfl h
  · replace h := h.2 c
    refine e_aload_n (pc' := 11) (dAt D48 6 rfl) rfl rfl ?_
    refine e_getfield (pc' := 14) (dAt D48 7 rfl) rfl rfl hOx0 (hT.own hOx0 0 rfl) ?_
    refine e_iload_n (pc' := 15) (dAt D48 8 rfl) rfl rfl ?_
    refine e_bipush (pc' := 17) (v := 10) (dAt D48 9 rfl) rfl (by decide) ?_
    refine e_imul (pc' := 18) (dAt D48 10 rfl) rfl ?_
    refine e_iload_n (pc' := 19) (dAt D48 11 rfl) rfl rfl ?_
    refine e_iadd (pc' := 20) (dAt D48 12 rfl) rfl ?_
    obtain ⟨f1, h⟩ := h
    refine e_iaload (pc' := 21) (dAt D48 13 rfl) rfl (hT.arr hOx0 0 rfl (by decide)).1 (Or.inl (hT.arr hOx0 0 rfl (by decide)).2) f1 rfl ?_
    refine e_aload_n (pc' := 22) (dAt D48 14 rfl) rfl rfl ?_
    refine e_getfield (pc' := 25) (dAt D48 15 rfl) rfl rfl hOx0 (hT.own hOx0 0 rfl) ?_
    refine e_iload_n (pc' := 26) (dAt D48 16 rfl) rfl rfl ?_
    refine e_bipush (pc' := 28) (v := 10) (dAt D48 17 rfl) rfl (by decide) ?_
    refine e_imul (pc' := 29) (dAt D48 18 rfl) rfl ?_
    refine e_iload_n (pc' := 30) (dAt D48 19 rfl) rfl rfl ?_
    refine e_iadd (pc' := 31) (dAt D48 20 rfl) rfl ?_
    obtain ⟨f1, h⟩ := h
    refine e_iaload (pc' := 32) (dAt D48 21 rfl) rfl (hT.arr hOx0 0 rfl (by decide)).1 (Or.inl (hT.arr hOx0 0 rfl (by decide)).2) f1 rfl ?_
    refine e_icmp_ge (t := 48) (pc' := 35) (dAt D48 22 rfl) ⟨by decide, by decide⟩ rfl (fun c => ?_) (fun c => ?_)
    · replace h := h.1 c
      replace h := h _ rfl
      refine e_iinc (pc' := 51) (dAt D48 32 rfl) rfl rfl (Nat.le_of_ble_eq_true rfl) (congrArg (_ + ·) (show Int32.ofInt (1) = (1 : Int32) by decide)) rfl ?_
      refine e_goto (t := 2) (dAt D48 33 rfl) ⟨by decide, by decide⟩ ?_
      exact h
    · replace h := h.2 c
      refine e_aload_n (pc' := 36) (dAt D48 23 rfl) rfl rfl ?_
      refine e_getfield (pc' := 39) (dAt D48 24 rfl) rfl rfl hOx0 (hT.own hOx0 0 rfl) ?_
      refine e_iload_n (pc' := 40) (dAt D48 25 rfl) rfl rfl ?_
      refine e_bipush (pc' := 42) (v := 10) (dAt D48 26 rfl) rfl (by decide) ?_
      refine e_imul (pc' := 43) (dAt D48 27 rfl) rfl ?_
      refine e_iload_n (pc' := 44) (dAt D48 28 rfl) rfl rfl ?_
      refine e_iadd (pc' := 45) (dAt D48 29 rfl) rfl ?_
      refine e_ldc (pc' := 47) (dAt D48 30 rfl) rfl rfl ?_
      obtain ⟨f1, h⟩ := h
      replace h := h _ rfl
      refine e_iastore (pc' := 48) (dAt D48 31 rfl) rfl (hT.arr hOx0 0 rfl (by decide)).1 (hT.arr hOx0 0 rfl (by decide)).2 f1 (nar_i _) ?_
      refine wtI hT (fun hT_3 => ?_)
      replace h := h _ rfl
      refine e_iinc (pc' := 51) (dAt D48 32 rfl) rfl rfl (Nat.le_of_ble_eq_true rfl) (congrArg (_ + ·) (show Int32.ofInt (1) = (1 : Int32) by decide)) rfl ?_
      refine e_goto (t := 2) (dAt D48 33 rfl) ⟨by decide, by decide⟩ ?_
      exact h
-- PlaceNets$Cover.tell.(II)I, from 0
set_option maxRecDepth 20000 in
theorem bk49_0 {d b : Nat} {Q : Option Value → mMem → Prop} {m : mMem} {x0 : Nat} {x1 : Int32} {x2 : Int32} (hT : mWT m) (hOx0 : m.1 x0 = some (.inr 3) ∧ x0 ≠ 0)
    (h : (((x1 < 0) → (Q (some (.int ((-1)))) m)) ∧ (¬ (x1 < 0) → (((x1 < (iF m x0 1)) → ((x2 = 10 → ((mIn x1 200 = true) ∧ (Q (some (.int (m.2.2.1 (64 * x0 + 2) x1.toNatClampNeg))) m))) ∧ (¬ x2 = 10 → ((x2 = 11 → ((mIn x1 200 = true) ∧ (Q (some (.int (m.2.2.1 (64 * x0 + 3) x1.toNatClampNeg))) m))) ∧ (¬ x2 = 11 → ((x2 = 12 → ((mIn x1 200 = true) ∧ (Q (some (.int (m.2.2.1 (64 * x0 + 4) x1.toNatClampNeg))) m))) ∧ (¬ x2 = 12 → (((x2 < 0) → (Q (some (.int ((-1)))) m)) ∧ (¬ (x2 < 0) → ((((iF m x0 7) ≤ x2) → (Q (some (.int ((-1)))) m)) ∧ (¬ ((iF m x0 7) ≤ x2) → ((mIn ((x1 * 10) + x2) 2000 = true) ∧ (mEv d 50 [.int (m.2.2.1 (64 * x0 + 1) ((x1 * 10) + x2).toNatClampNeg)] m (fun r m' => mEs d 49 b g49 (87, [some (.ref x0), some (.int x1), some (.int x2)], r.toList ++ [], m') Q)))))))))))))) ∧ (¬ (x1 < (iF m x0 1)) → (Q (some (.int ((-1)))) m)))))) :
    mEs d 49 b g49 (0, [some (.ref x0), some (.int x1), some (.int x2)], [], m) Q := by
  refine e_iload_n (pc' := 1) (dAt D49 0 rfl) rfl rfl ?_
  refine e_if_lt (t := 12) (pc' := 4) (dAt D49 1 rfl) ⟨by decide, by decide⟩ rfl (fun c => ?_) (fun c => ?_)
  · replace h := h.1 c
    refine e_iconst (pc' := 13) (v := (-1)) (dAt D49 6 rfl) rfl (by decide) ?_
    exact e_ireturn (dAt D49 7 rfl) rfl ⟨rfl, fun e => by cases e⟩ h
  · replace h := h.2 c
    refine e_iload_n (pc' := 5) (dAt D49 2 rfl) rfl rfl ?_
    refine e_aload_n (pc' := 6) (dAt D49 3 rfl) rfl rfl ?_
    refine e_getfield (pc' := 9) (dAt D49 4 rfl) rfl rfl hOx0 (hT.int hOx0 1 (by decide)) ?_
    refine e_icmp_lt (t := 14) (pc' := 12) (dAt D49 5 rfl) ⟨by decide, by decide⟩ rfl (fun c => ?_) (fun c => ?_)
    · replace h := h.1 c
      refine e_iload_n (pc' := 15) (dAt D49 8 rfl) rfl rfl ?_
      refine vc_if h (fun c0 h => ?_) (fun c0 h => ?_)
      · refine e_tableswitch (off := 25) (t := 40) (dAt D49 9 rfl) (by rw [c0]; rfl) ⟨by decide, by decide⟩ ?_
        refine e_aload_n (pc' := 41) (dAt D49 10 rfl) rfl rfl ?_
        refine e_getfield (pc' := 44) (dAt D49 11 rfl) rfl rfl hOx0 (hT.own hOx0 1 rfl) ?_
        refine e_iload_n (pc' := 45) (dAt D49 12 rfl) rfl rfl ?_
        obtain ⟨f1, h⟩ := h
        refine e_iaload (pc' := 46) (dAt D49 13 rfl) rfl (hT.arr hOx0 1 rfl (by decide)).1 (Or.inl (hT.arr hOx0 1 rfl (by decide)).2) f1 rfl ?_
        exact e_ireturn (dAt D49 14 rfl) rfl ⟨rfl, fun e => by cases e⟩ h
      · skip
        refine vc_if h (fun c1 h => ?_) (fun c1 h => ?_)
        · refine e_tableswitch (off := 32) (t := 47) (dAt D49 9 rfl) (by rw [c1]; rfl) ⟨by decide, by decide⟩ ?_
          refine e_aload_n (pc' := 48) (dAt D49 15 rfl) rfl rfl ?_
          refine e_getfield (pc' := 51) (dAt D49 16 rfl) rfl rfl hOx0 (hT.own hOx0 2 rfl) ?_
          refine e_iload_n (pc' := 52) (dAt D49 17 rfl) rfl rfl ?_
          obtain ⟨f1, h⟩ := h
          refine e_iaload (pc' := 53) (dAt D49 18 rfl) rfl (hT.arr hOx0 2 rfl (by decide)).1 (Or.inl (hT.arr hOx0 2 rfl (by decide)).2) f1 rfl ?_
          exact e_ireturn (dAt D49 19 rfl) rfl ⟨rfl, fun e => by cases e⟩ h
        · skip
          refine vc_if h (fun c2 h => ?_) (fun c2 h => ?_)
          · refine e_tableswitch (off := 39) (t := 54) (dAt D49 9 rfl) (by rw [c2]; rfl) ⟨by decide, by decide⟩ ?_
            refine e_aload_n (pc' := 55) (dAt D49 20 rfl) rfl rfl ?_
            refine e_getfield (pc' := 58) (dAt D49 21 rfl) rfl rfl hOx0 (hT.own hOx0 3 rfl) ?_
            refine e_iload_n (pc' := 59) (dAt D49 22 rfl) rfl rfl ?_
            obtain ⟨f1, h⟩ := h
            refine e_iaload (pc' := 60) (dAt D49 23 rfl) rfl (hT.arr hOx0 3 rfl (by decide)).1 (Or.inl (hT.arr hOx0 3 rfl (by decide)).2) f1 rfl ?_
            exact e_ireturn (dAt D49 24 rfl) rfl ⟨rfl, fun e => by cases e⟩ h
          · skip
            refine e_tableswitch (off := 46) (t := 61) (dAt D49 9 rfl) (if_pos (sw_out (fun k h1 h2 e => by
              have hk : k = 10 ∨ k = 11 ∨ k = 12 := by omega
              rcases hk with rfl | rfl | rfl
              · exact c0 (Int32.toInt_inj.mp (e.trans (by decide)))
              · exact c1 (Int32.toInt_inj.mp (e.trans (by decide)))
              · exact c2 (Int32.toInt_inj.mp (e.trans (by decide)))
              ))) ⟨by decide, by decide⟩ ?_
            refine e_iload_n (pc' := 62) (dAt D49 25 rfl) rfl rfl ?_
            refine e_if_lt (t := 90) (pc' := 65) (dAt D49 26 rfl) ⟨by decide, by decide⟩ rfl (fun c => ?_) (fun c => ?_)
            · replace h := h.1 c
              refine e_iconst (pc' := 91) (v := (-1)) (dAt D49 41 rfl) rfl (by decide) ?_
              exact e_ireturn (dAt D49 42 rfl) rfl ⟨rfl, fun e => by cases e⟩ h
            · replace h := h.2 c
              refine e_iload_n (pc' := 66) (dAt D49 27 rfl) rfl rfl ?_
              refine e_aload_n (pc' := 67) (dAt D49 28 rfl) rfl rfl ?_
              refine e_getfield (pc' := 70) (dAt D49 29 rfl) rfl rfl hOx0 (hT.int hOx0 7 (by decide)) ?_
              refine e_icmp_ge (t := 90) (pc' := 73) (dAt D49 30 rfl) ⟨by decide, by decide⟩ rfl (fun c => ?_) (fun c => ?_)
              · replace h := h.1 c
                refine e_iconst (pc' := 91) (v := (-1)) (dAt D49 41 rfl) rfl (by decide) ?_
                exact e_ireturn (dAt D49 42 rfl) rfl ⟨rfl, fun e => by cases e⟩ h
              · replace h := h.2 c
                refine e_aload_n (pc' := 74) (dAt D49 31 rfl) rfl rfl ?_
                refine e_getfield (pc' := 77) (dAt D49 32 rfl) rfl rfl hOx0 (hT.own hOx0 0 rfl) ?_
                refine e_iload_n (pc' := 78) (dAt D49 33 rfl) rfl rfl ?_
                refine e_bipush (pc' := 80) (v := 10) (dAt D49 34 rfl) rfl (by decide) ?_
                refine e_imul (pc' := 81) (dAt D49 35 rfl) rfl ?_
                refine e_iload_n (pc' := 82) (dAt D49 36 rfl) rfl rfl ?_
                refine e_iadd (pc' := 83) (dAt D49 37 rfl) rfl ?_
                obtain ⟨f1, h⟩ := h
                refine e_iaload (pc' := 84) (dAt D49 38 rfl) rfl (hT.arr hOx0 0 rfl (by decide)).1 (Or.inl (hT.arr hOx0 0 rfl (by decide)).2) f1 rfl ?_
                exact e_call2 h (dAt D49 39 rfl) (hi2 rfl) rfl G50 (by decide) rfl (Nat.le_of_ble_eq_true rfl) rfl rfl rfl
    · replace h := h.2 c
      refine e_iconst (pc' := 13) (v := (-1)) (dAt D49 6 rfl) rfl (by decide) ?_
      exact e_ireturn (dAt D49 7 rfl) rfl ⟨rfl, fun e => by cases e⟩ h
-- PlaceNets$Cover.tell.(II)I, from 87
set_option maxRecDepth 20000 in
theorem bk49_87 {d b : Nat} {Q : Option Value → mMem → Prop} {m : mMem} {x0 : Nat} {x1 : Int32} {x2 : Int32} {y0 : Int32} (hT : mWT m) (hOx0 : m.1 x0 = some (.inr 3) ∧ x0 ≠ 0)
    (h : Q (some (.int y0)) m) :
    mEs d 49 b g49 (87, [some (.ref x0), some (.int x1), some (.int x2)], [.int y0], m) Q := by
  refine e_goto (t := 91) (dAt D49 40 rfl) ⟨by decide, by decide⟩ ?_
  exact e_ireturn (dAt D49 42 rfl) rfl ⟨rfl, fun e => by cases e⟩ h
-- PlaceNets$Cover.shown.(I)I, from 0
set_option maxRecDepth 20000 in
theorem bk50_0 {d b : Nat} {Q : Option Value → mMem → Prop} {m : mMem} {x0 : Int32} (hT : mWT m)
    (h : (((¬ x0 = 1000000) → (Q (some (.int x0)) m)) ∧ (¬ (¬ x0 = 1000000) → (Q (some (.int ((-9)))) m)))) :
    mEs d 50 b g50 (0, [some (.int x0)], [], m) Q := by
  refine e_iload_n (pc' := 1) (dAt D50 0 rfl) rfl rfl ?_
  refine e_ldc (pc' := 3) (dAt D50 1 rfl) rfl rfl ?_
  refine e_icmp_ne (t := 11) (pc' := 6) (dAt D50 2 rfl) ⟨by decide, by decide⟩ rfl (fun c => ?_) (fun c => ?_)
  · replace h := h.1 c
    refine e_iload_n (pc' := 12) (dAt D50 5 rfl) rfl rfl ?_
    exact e_ireturn (dAt D50 6 rfl) rfl ⟨rfl, fun e => by cases e⟩ h
  · replace h := h.2 c
    refine e_bipush (pc' := 8) (v := (-9)) (dAt D50 3 rfl) rfl (by decide) ?_
    refine e_goto (t := 12) (dAt D50 4 rfl) ⟨by decide, by decide⟩ ?_
    exact e_ireturn (dAt D50 6 rfl) rfl ⟨rfl, fun e => by cases e⟩ h
-- PlaceNets$Cover.mostIn.(I)I, from 0
set_option maxRecDepth 20000 in
theorem bk52_0 {d b : Nat} {Q : Option Value → mMem → Prop} {m : mMem} {x0 : Nat} {x1 : Int32} {x2 : Option Value} {x3 : Option Value} (hT : mWT m) (hOx0 : m.1 x0 = some (.inr 3) ∧ x0 ≠ 0)
    (h : mEs d 52 b g52 (4, [some (.ref x0), some (.int x1), some (.int 0), some (.int 0)], [], m) Q) :
    mEs d 52 b g52 (0, [some (.ref x0), some (.int x1), x2, x3], [], m) Q := by
  refine e_iconst (pc' := 1) (v := 0) (dAt D52 0 rfl) rfl (by decide) ?_
  refine e_istore_n (pc' := 2) (dAt D52 1 rfl) rfl (Nat.le_of_ble_eq_true rfl) rfl ?_
  refine e_iconst (pc' := 3) (v := 0) (dAt D52 2 rfl) rfl (by decide) ?_
  refine e_istore_n (pc' := 4) (dAt D52 3 rfl) rfl (Nat.le_of_ble_eq_true rfl) rfl ?_
  exact h
-- PlaceNets$Cover.mostIn.(I)I, from 4
set_option maxRecDepth 20000 in
theorem bk52_4 {d b : Nat} {Q : Option Value → mMem → Prop} {m : mMem} {x0 : Nat} {x1 : Int32} {x2 : Int32} {x3 : Int32} (hT : mWT m) (hOx0 : m.1 x0 = some (.inr 3) ∧ x0 ≠ 0) (hd1 : 1 ≤ d)
    (h : ((((iF m x0 1) ≤ x3) → (mEv d 50 [.int x2] m (fun r m' => mEs d 52 b g52 (38, [some (.ref x0), some (.int x1), some (.int x2), some (.int x3)], r.toList ++ [], m') Q))) ∧ (¬ ((iF m x0 1) ≤ x3) → ((mIn ((x3 * 10) + x1) 2000 = true) ∧ (∀ (v_1 : Int32), v_1 = (if x2 < (m.2.2.1 (64 * x0 + 1) ((x3 * 10) + x1).toNatClampNeg) then (m.2.2.1 (64 * x0 + 1) ((x3 * 10) + x1).toNatClampNeg) else x2) → ∀ (v_2 : Int32), v_2 = (x3 + 1) → mEs d 52 b g52 (4, [some (.ref x0), some (.int x1), some (.int v_1), some (.int v_2)], [], m) Q))))) :
    mEs d 52 b g52 (4, [some (.ref x0), some (.int x1), some (.int x2), some (.int x3)], [], m) Q := by
  refine e_iload_n (pc' := 5) (dAt D52 4 rfl) rfl rfl ?_
  refine e_aload_n (pc' := 6) (dAt D52 5 rfl) rfl rfl ?_
  refine e_getfield (pc' := 9) (dAt D52 6 rfl) rfl rfl hOx0 (hT.int hOx0 1 (by decide)) ?_
  refine e_icmp_ge (t := 34) (pc' := 12) (dAt D52 7 rfl) ⟨by decide, by decide⟩ rfl (fun c => ?_) (fun c => ?_)
  · replace h := h.1 c
    refine e_iload_n (pc' := 35) (dAt D52 21 rfl) rfl rfl ?_
    exact e_call2 h (dAt D52 22 rfl) (hi2 rfl) rfl G50 (by decide) rfl (Nat.le_of_ble_eq_true rfl) rfl rfl rfl
  · replace h := h.2 c
    refine e_iload_n (pc' := 13) (dAt D52 8 rfl) rfl rfl ?_
    refine e_aload_n (pc' := 14) (dAt D52 9 rfl) rfl rfl ?_
    refine e_getfield (pc' := 17) (dAt D52 10 rfl) rfl rfl hOx0 (hT.own hOx0 0 rfl) ?_
    refine e_iload_n (pc' := 18) (dAt D52 11 rfl) rfl rfl ?_
    refine e_bipush (pc' := 20) (v := 10) (dAt D52 12 rfl) rfl (by decide) ?_
    refine e_imul (pc' := 21) (dAt D52 13 rfl) rfl ?_
    refine e_iload_n (pc' := 22) (dAt D52 14 rfl) rfl rfl ?_
    refine e_iadd (pc' := 23) (dAt D52 15 rfl) rfl ?_
    obtain ⟨f1, h⟩ := h
    refine e_iaload (pc' := 24) (dAt D52 16 rfl) rfl (hT.arr hOx0 0 rfl (by decide)).1 (Or.inl (hT.arr hOx0 0 rfl (by decide)).2) f1 rfl ?_
    refine e_max (pc' := 27) (dAt D52 17 rfl) rfl rfl ⟨hd1, Nat.le_of_ble_eq_true rfl⟩ ?_
    replace h := h _ rfl
    refine e_istore_n (pc' := 28) (dAt D52 18 rfl) rfl (Nat.le_of_ble_eq_true rfl) rfl ?_
    replace h := h _ rfl
    refine e_iinc (pc' := 31) (dAt D52 19 rfl) rfl rfl (Nat.le_of_ble_eq_true rfl) (congrArg (_ + ·) (show Int32.ofInt (1) = (1 : Int32) by decide)) rfl ?_
    refine e_goto (t := 4) (dAt D52 20 rfl) ⟨by decide, by decide⟩ ?_
    exact h
-- PlaceNets$Cover.mostIn.(I)I, from 38
set_option maxRecDepth 20000 in
theorem bk52_38 {d b : Nat} {Q : Option Value → mMem → Prop} {m : mMem} {x0 : Nat} {x1 : Int32} {x2 : Int32} {x3 : Int32} {y0 : Int32} (hT : mWT m) (hOx0 : m.1 x0 = some (.inr 3) ∧ x0 ≠ 0)
    (h : Q (some (.int y0)) m) :
    mEs d 52 b g52 (38, [some (.ref x0), some (.int x1), some (.int x2), some (.int x3)], [.int y0], m) Q := by
  exact e_ireturn (dAt D52 23 rfl) rfl ⟨rfl, fun e => by cases e⟩ h
-- PlaceNets$Cover.leastAbove.([I)I, from 0
set_option maxRecDepth 20000 in
theorem bk54_0 {d b : Nat} {Q : Option Value → mMem → Prop} {m : mMem} {x0 : Nat} {x1 : Nat} {lx1 : Nat} {x2 : Option Value} (hT : mWT m) (hOx0 : m.1 x0 = some (.inr 3) ∧ x0 ≠ 0) (hAx1 : m.1 x1 = some (.inl (.int, lx1)) ∧ x1 ≠ 0)
    (h : mEs d 54 b g54 (2, [some (.ref x0), some (.ref x1), some (.int 0)], [], m) Q) :
    mEs d 54 b g54 (0, [some (.ref x0), some (.ref x1), x2], [], m) Q := by
  refine e_iconst (pc' := 1) (v := 0) (dAt D54 0 rfl) rfl (by decide) ?_
  refine e_istore_n (pc' := 2) (dAt D54 1 rfl) rfl (Nat.le_of_ble_eq_true rfl) rfl ?_
  exact h
-- PlaceNets$Cover.leastAbove.([I)I, from 2
set_option maxRecDepth 20000 in
theorem bk54_2 {d b : Nat} {Q : Option Value → mMem → Prop} {m : mMem} {x0 : Nat} {x1 : Nat} {lx1 : Nat} {x2 : Int32} (hT : mWT m) (hOx0 : m.1 x0 = some (.inr 3) ∧ x0 ≠ 0) (hAx1 : m.1 x1 = some (.inl (.int, lx1)) ∧ x1 ≠ 0)
    (h : ((((iF m x0 1) ≤ x2) → (Q (some (.int ((-3)))) m)) ∧ (¬ ((iF m x0 1) ≤ x2) → (mEv d 55 [.ref x0, .int x2, .ref x1] m (fun r m' => mEs d 54 b g54 (16, [some (.ref x0), some (.ref x1), some (.int x2)], r.toList ++ [], m') Q))))) :
    mEs d 54 b g54 (2, [some (.ref x0), some (.ref x1), some (.int x2)], [], m) Q := by
  refine e_iload_n (pc' := 3) (dAt D54 2 rfl) rfl rfl ?_
  refine e_aload_n (pc' := 4) (dAt D54 3 rfl) rfl rfl ?_
  refine e_getfield (pc' := 7) (dAt D54 4 rfl) rfl rfl hOx0 (hT.int hOx0 1 (by decide)) ?_
  refine e_icmp_ge (t := 27) (pc' := 10) (dAt D54 5 rfl) ⟨by decide, by decide⟩ rfl (fun c => ?_) (fun c => ?_)
  · replace h := h.1 c
    refine e_bipush (pc' := 29) (v := (-3)) (dAt D54 15 rfl) rfl (by decide) ?_
    exact e_ireturn (dAt D54 16 rfl) rfl ⟨rfl, fun e => by cases e⟩ h
  · replace h := h.2 c
    refine e_aload_n (pc' := 11) (dAt D54 6 rfl) rfl rfl ?_
    refine e_iload_n (pc' := 12) (dAt D54 7 rfl) rfl rfl ?_
    refine e_aload_n (pc' := 13) (dAt D54 8 rfl) rfl rfl ?_
    exact e_call2 h (dAt D54 9 rfl) (hi0 rfl) rfl G55 (by decide) rfl (Nat.le_of_ble_eq_true rfl) (kV hOx0 rfl rfl) rfl rfl
-- PlaceNets$Cover.leastAbove.([I)I, from 16
set_option maxRecDepth 20000 in
theorem bk54_16 {d b : Nat} {Q : Option Value → mMem → Prop} {m : mMem} {x0 : Nat} {x1 : Nat} {lx1 : Nat} {x2 : Int32} {y0 : Int32} (hT : mWT m) (hOx0 : m.1 x0 = some (.inr 3) ∧ x0 ≠ 0) (hAx1 : m.1 x1 = some (.inl (.int, lx1)) ∧ x1 ≠ 0)
    (h : (((y0 = 0) → (∀ (v_1 : Int32), v_1 = (x2 + 1) → mEs d 54 b g54 (2, [some (.ref x0), some (.ref x1), some (.int v_1)], [], m) Q)) ∧ (¬ (y0 = 0) → (Q (some (.int x2)) m)))) :
    mEs d 54 b g54 (16, [some (.ref x0), some (.ref x1), some (.int x2)], [.int y0], m) Q := by
  refine e_if_eq (t := 21) (pc' := 19) (dAt D54 10 rfl) ⟨by decide, by decide⟩ rfl (fun c => ?_) (fun c => ?_)
  · replace h := h.1 c
    replace h := h _ rfl
    refine e_iinc (pc' := 24) (dAt D54 13 rfl) rfl rfl (Nat.le_of_ble_eq_true rfl) (congrArg (_ + ·) (show Int32.ofInt (1) = (1 : Int32) by decide)) rfl ?_
    refine e_goto (t := 2) (dAt D54 14 rfl) ⟨by decide, by decide⟩ ?_
    exact h
  · replace h := h.2 c
    refine e_iload_n (pc' := 20) (dAt D54 11 rfl) rfl rfl ?_
    exact e_ireturn (dAt D54 12 rfl) rfl ⟨rfl, fun e => by cases e⟩ h
-- PlaceNets$Cover.isAbove.(I[I)Z, from 0
set_option maxRecDepth 20000 in
theorem bk55_0 {d b : Nat} {Q : Option Value → mMem → Prop} {m : mMem} {x0 : Nat} {x1 : Int32} {x2 : Nat} {lx2 : Nat} {x3 : Option Value} (hT : mWT m) (hOx0 : m.1 x0 = some (.inr 3) ∧ x0 ≠ 0) (hAx2 : m.1 x2 = some (.inl (.int, lx2)) ∧ x2 ≠ 0)
    (h : mEs d 55 b g55 (2, [some (.ref x0), some (.int x1), some (.ref x2), some (.int 0)], [], m) Q) :
    mEs d 55 b g55 (0, [some (.ref x0), some (.int x1), some (.ref x2), x3], [], m) Q := by
  refine e_iconst (pc' := 1) (v := 0) (dAt D55 0 rfl) rfl (by decide) ?_
  refine e_istore_n (pc' := 2) (dAt D55 1 rfl) rfl (Nat.le_of_ble_eq_true rfl) rfl ?_
  exact h
-- PlaceNets$Cover.isAbove.(I[I)Z, from 2
set_option maxRecDepth 20000 in
theorem bk55_2 {d b : Nat} {Q : Option Value → mMem → Prop} {m : mMem} {x0 : Nat} {x1 : Int32} {x2 : Nat} {lx2 : Nat} {x3 : Int32} (hT : mWT m) (hOx0 : m.1 x0 = some (.inr 3) ∧ x0 ≠ 0) (hAx2 : m.1 x2 = some (.inl (.int, lx2)) ∧ x2 ≠ 0)
    (h : ((((iF m x0 7) ≤ x3) → (Q (some (.int 1)) m)) ∧ (¬ ((iF m x0 7) ≤ x3) → ((mIn ((x1 * 10) + x3) 2000 = true) ∧ ((mIn x3 lx2 = true) ∧ ((((m.2.2.1 x2 x3.toNatClampNeg) ≤ (m.2.2.1 (64 * x0 + 1) ((x1 * 10) + x3).toNatClampNeg)) → (∀ (v_1 : Int32), v_1 = (x3 + 1) → mEs d 55 b g55 (2, [some (.ref x0), some (.int x1), some (.ref x2), some (.int v_1)], [], m) Q)) ∧ (¬ ((m.2.2.1 x2 x3.toNatClampNeg) ≤ (m.2.2.1 (64 * x0 + 1) ((x1 * 10) + x3).toNatClampNeg)) → (Q (some (.int 0)) m)))))))) :
    mEs d 55 b g55 (2, [some (.ref x0), some (.int x1), some (.ref x2), some (.int x3)], [], m) Q := by
  refine e_iload_n (pc' := 3) (dAt D55 2 rfl) rfl rfl ?_
  refine e_aload_n (pc' := 4) (dAt D55 3 rfl) rfl rfl ?_
  refine e_getfield (pc' := 7) (dAt D55 4 rfl) rfl rfl hOx0 (hT.int hOx0 7 (by decide)) ?_
  refine e_icmp_ge (t := 35) (pc' := 10) (dAt D55 5 rfl) ⟨by decide, by decide⟩ rfl (fun c => ?_) (fun c => ?_)
  · replace h := h.1 c
    refine e_iconst (pc' := 36) (v := 1) (dAt D55 22 rfl) rfl (by decide) ?_
    exact e_ireturn (dAt D55 23 rfl) rfl ⟨rfl, fun e => by cases e⟩ h
  · replace h := h.2 c
    refine e_aload_n (pc' := 11) (dAt D55 6 rfl) rfl rfl ?_
    refine e_getfield (pc' := 14) (dAt D55 7 rfl) rfl rfl hOx0 (hT.own hOx0 0 rfl) ?_
    refine e_iload_n (pc' := 15) (dAt D55 8 rfl) rfl rfl ?_
    refine e_bipush (pc' := 17) (v := 10) (dAt D55 9 rfl) rfl (by decide) ?_
    refine e_imul (pc' := 18) (dAt D55 10 rfl) rfl ?_
    refine e_iload_n (pc' := 19) (dAt D55 11 rfl) rfl rfl ?_
    refine e_iadd (pc' := 20) (dAt D55 12 rfl) rfl ?_
    obtain ⟨f1, h⟩ := h
    refine e_iaload (pc' := 21) (dAt D55 13 rfl) rfl (hT.arr hOx0 0 rfl (by decide)).1 (Or.inl (hT.arr hOx0 0 rfl (by decide)).2) f1 rfl ?_
    refine e_aload_n (pc' := 22) (dAt D55 14 rfl) rfl rfl ?_
    refine e_iload_n (pc' := 23) (dAt D55 15 rfl) rfl rfl ?_
    obtain ⟨f1, h⟩ := h
    refine e_iaload (pc' := 24) (dAt D55 16 rfl) rfl hAx2.1 (Or.inl hAx2.2) f1 rfl ?_
    refine e_icmp_ge (t := 29) (pc' := 27) (dAt D55 17 rfl) ⟨by decide, by decide⟩ rfl (fun c => ?_) (fun c => ?_)
    · replace h := h.1 c
      replace h := h _ rfl
      refine e_iinc (pc' := 32) (dAt D55 20 rfl) rfl rfl (Nat.le_of_ble_eq_true rfl) (congrArg (_ + ·) (show Int32.ofInt (1) = (1 : Int32) by decide)) rfl ?_
      refine e_goto (t := 2) (dAt D55 21 rfl) ⟨by decide, by decide⟩ ?_
      exact h
    · replace h := h.2 c
      refine e_iconst (pc' := 28) (v := 0) (dAt D55 18 rfl) rfl (by decide) ?_
      exact e_ireturn (dAt D55 19 rfl) rfl ⟨rfl, fun e => by cases e⟩ h
-- PlaceNets$Cover.countAbove.([I)I, from 0
set_option maxRecDepth 20000 in
theorem bk56_0 {d b : Nat} {Q : Option Value → mMem → Prop} {m : mMem} {x0 : Nat} {x1 : Nat} {lx1 : Nat} {x2 : Option Value} {x3 : Option Value} (hT : mWT m) (hOx0 : m.1 x0 = some (.inr 3) ∧ x0 ≠ 0) (hAx1 : m.1 x1 = some (.inl (.int, lx1)) ∧ x1 ≠ 0)
    (h : mEs d 56 b g56 (4, [some (.ref x0), some (.ref x1), some (.int 0), some (.int 0)], [], m) Q) :
    mEs d 56 b g56 (0, [some (.ref x0), some (.ref x1), x2, x3], [], m) Q := by
  refine e_iconst (pc' := 1) (v := 0) (dAt D56 0 rfl) rfl (by decide) ?_
  refine e_istore_n (pc' := 2) (dAt D56 1 rfl) rfl (Nat.le_of_ble_eq_true rfl) rfl ?_
  refine e_iconst (pc' := 3) (v := 0) (dAt D56 2 rfl) rfl (by decide) ?_
  refine e_istore_n (pc' := 4) (dAt D56 3 rfl) rfl (Nat.le_of_ble_eq_true rfl) rfl ?_
  exact h
-- PlaceNets$Cover.countAbove.([I)I, from 4
set_option maxRecDepth 20000 in
theorem bk56_4 {d b : Nat} {Q : Option Value → mMem → Prop} {m : mMem} {x0 : Nat} {x1 : Nat} {lx1 : Nat} {x2 : Int32} {x3 : Int32} (hT : mWT m) (hOx0 : m.1 x0 = some (.inr 3) ∧ x0 ≠ 0) (hAx1 : m.1 x1 = some (.inl (.int, lx1)) ∧ x1 ≠ 0)
    (h : ((((iF m x0 1) ≤ x3) → (Q (some (.int x2)) m)) ∧ (¬ ((iF m x0 1) ≤ x3) → (mEv d 55 [.ref x0, .int x3, .ref x1] m (fun r m' => mEs d 56 b g56 (18, [some (.ref x0), some (.ref x1), some (.int x2), some (.int x3)], r.toList ++ [], m') Q))))) :
    mEs d 56 b g56 (4, [some (.ref x0), some (.ref x1), some (.int x2), some (.int x3)], [], m) Q := by
  refine e_iload_n (pc' := 5) (dAt D56 4 rfl) rfl rfl ?_
  refine e_aload_n (pc' := 6) (dAt D56 5 rfl) rfl rfl ?_
  refine e_getfield (pc' := 9) (dAt D56 6 rfl) rfl rfl hOx0 (hT.int hOx0 1 (by decide)) ?_
  refine e_icmp_ge (t := 30) (pc' := 12) (dAt D56 7 rfl) ⟨by decide, by decide⟩ rfl (fun c => ?_) (fun c => ?_)
  · replace h := h.1 c
    refine e_iload_n (pc' := 31) (dAt D56 16 rfl) rfl rfl ?_
    exact e_ireturn (dAt D56 17 rfl) rfl ⟨rfl, fun e => by cases e⟩ h
  · replace h := h.2 c
    refine e_aload_n (pc' := 13) (dAt D56 8 rfl) rfl rfl ?_
    refine e_iload_n (pc' := 14) (dAt D56 9 rfl) rfl rfl ?_
    refine e_aload_n (pc' := 15) (dAt D56 10 rfl) rfl rfl ?_
    exact e_call2 h (dAt D56 11 rfl) (hi0 rfl) rfl G55 (by decide) rfl (Nat.le_of_ble_eq_true rfl) (kV hOx0 rfl rfl) rfl rfl
-- PlaceNets$Cover.countAbove.([I)I, from 18
set_option maxRecDepth 20000 in
theorem bk56_18 {d b : Nat} {Q : Option Value → mMem → Prop} {m : mMem} {x0 : Nat} {x1 : Nat} {lx1 : Nat} {x2 : Int32} {x3 : Int32} {y0 : Int32} (hT : mWT m) (hOx0 : m.1 x0 = some (.inr 3) ∧ x0 ≠ 0) (hAx1 : m.1 x1 = some (.inl (.int, lx1)) ∧ x1 ≠ 0)
    (h : (((y0 = 0) → (∀ (v_1 : Int32), v_1 = (x3 + 1) → mEs d 56 b g56 (4, [some (.ref x0), some (.ref x1), some (.int x2), some (.int v_1)], [], m) Q)) ∧ (¬ (y0 = 0) → (∀ (v_2 : Int32), v_2 = (x2 + 1) → ∀ (v_3 : Int32), v_3 = (x3 + 1) → mEs d 56 b g56 (4, [some (.ref x0), some (.ref x1), some (.int v_2), some (.int v_3)], [], m) Q)))) :
    mEs d 56 b g56 (18, [some (.ref x0), some (.ref x1), some (.int x2), some (.int x3)], [.int y0], m) Q := by
  refine e_if_eq (t := 24) (pc' := 21) (dAt D56 12 rfl) ⟨by decide, by decide⟩ rfl (fun c => ?_) (fun c => ?_)
  · replace h := h.1 c
    replace h := h _ rfl
    refine e_iinc (pc' := 27) (dAt D56 14 rfl) rfl rfl (Nat.le_of_ble_eq_true rfl) (congrArg (_ + ·) (show Int32.ofInt (1) = (1 : Int32) by decide)) rfl ?_
    refine e_goto (t := 4) (dAt D56 15 rfl) ⟨by decide, by decide⟩ ?_
    exact h
  · replace h := h.2 c
    replace h := h _ rfl
    refine e_iinc (pc' := 24) (dAt D56 13 rfl) rfl rfl (Nat.le_of_ble_eq_true rfl) (congrArg (_ + ·) (show Int32.ofInt (1) = (1 : Int32) by decide)) rfl ?_
    replace h := h _ rfl
    refine e_iinc (pc' := 27) (dAt D56 14 rfl) rfl rfl (Nat.le_of_ble_eq_true rfl) (congrArg (_ + ·) (show Int32.ofInt (1) = (1 : Int32) by decide)) rfl ?_
    refine e_goto (t := 4) (dAt D56 15 rfl) ⟨by decide, by decide⟩ ?_
    exact h
