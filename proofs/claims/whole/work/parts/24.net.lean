abbrev g10 : mG := (⟨"PlaceNets$Net", "clear", "()V"⟩, prog_4_method_2_code, 1, none, 3, 1, 2, false)
theorem G10 : mGm[10]? = some g10 := rfl
def tb10 : List (Nat × Instr × Nat) := [(0, .aload_n 0, 1), (1, .iconst (0), 1), (2, .putfield 21, 3), (5, .aload_n 0, 1), (6, .iconst (0), 1), (7, .putfield 25, 3), (10, .aload_n 0, 1), (11, .getfield 9, 3), (14, .iconst (0), 1), (15, .invokestatic 28, 3), (18, .aload_n 0, 1), (19, .getfield 15, 3), (22, .iconst (0), 1), (23, .invokestatic 28, 3), (26, .aload_n 0, 1), (27, .getfield 18, 3), (30, .iconst (0), 1), (31, .invokestatic 28, 3), (34, .return_, 1)]
set_option maxRecDepth 20000 in
theorem D10 : tb10.all (dOk prog_4_method_2_code) = true := by decide +kernel
abbrev g19 : mG := (⟨"PlaceNets$Net", "hasPlace", "(I)Z"⟩, prog_4_method_3_code, 2, (some .boolean), 3, 2, 2, false)
theorem G19 : mGm[19]? = some g19 := rfl
def tb19 : List (Nat × Instr × Nat) := [(0, .iload_n 1, 1), (1, .ifCond .lt (15), 3), (4, .iload_n 1, 1), (5, .aload_n 0, 1), (6, .getfield 21, 3), (9, .if_icmp .ge (7), 3), (12, .iconst (1), 1), (13, .goto (4), 3), (16, .iconst (0), 1), (17, .ireturn, 1)]
set_option maxRecDepth 20000 in
theorem D19 : tb19.all (dOk prog_4_method_3_code) = true := by decide +kernel
abbrev g22 : mG := (⟨"PlaceNets$Net", "readyBits", "([I)I"⟩, prog_4_method_7_code, 4, (some .int), 3, 2, 2, false)
theorem G22 : mGm[22]? = some g22 := rfl
def tb22 : List (Nat × Instr × Nat) := [(0, .iconst (0), 1), (1, .istore_n 2, 1), (2, .iconst (0), 1), (3, .istore_n 3, 1), (4, .iload_n 3, 1), (5, .aload_n 0, 1), (6, .getfield 25, 3), (9, .if_icmp .ge (24), 3), (12, .aload_n 0, 1), (13, .aload_n 1, 1), (14, .iload_n 3, 1), (15, .invokevirtual 34, 3), (18, .ifCond .eq (9), 3), (21, .iload_n 2, 1), (22, .iconst (1), 1), (23, .iload_n 3, 1), (24, .ishl, 1), (25, .ior, 1), (26, .istore_n 2, 1), (27, .iinc 3 (1), 3), (30, .goto (-26), 3), (33, .iload_n 2, 1), (34, .ireturn, 1)]
set_option maxRecDepth 20000 in
theorem D22 : tb22.all (dOk prog_4_method_7_code) = true := by decide +kernel
abbrev g23 : mG := (⟨"PlaceNets$Net", "isReady", "([II)Z"⟩, prog_4_method_6_code, 5, (some .boolean), 3, 3, 2, false)
theorem G23 : mGm[23]? = some g23 := rfl
def tb23 : List (Nat × Instr × Nat) := [(0, .iconst (0), 1), (1, .istore_n 3, 1), (2, .iload_n 3, 1), (3, .aload_n 0, 1), (4, .getfield 21, 3), (7, .if_icmp .ge (52), 3), (10, .aload_n 1, 1), (11, .iload_n 3, 1), (12, .iaload, 1), (13, .aload_n 0, 1), (14, .getfield 15, 3), (17, .iload_n 2, 1), (18, .bipush (10), 2), (20, .imul, 1), (21, .iload_n 3, 1), (22, .iadd, 1), (23, .iaload, 1), (24, .isub, 1), (25, .istore 4, 2), (27, .iload 4, 2), (29, .ifCond .lt (22), 3), (32, .iload 4, 2), (34, .aload_n 0, 1), (35, .getfield 18, 3), (38, .iload_n 2, 1), (39, .bipush (10), 2), (41, .imul, 1), (42, .iload_n 3, 1), (43, .iadd, 1), (44, .iaload, 1), (45, .iadd, 1), (46, .bipush (99), 2), (48, .if_icmp .le (5), 3), (51, .iconst (0), 1), (52, .ireturn, 1), (53, .iinc 3 (1), 3), (56, .goto (-54), 3), (59, .iconst (1), 1), (60, .ireturn, 1)]
set_option maxRecDepth 20000 in
theorem D23 : tb23.all (dOk prog_4_method_6_code) = true := by decide +kernel
abbrev g25 : mG := (⟨"PlaceNets$Net", "hasTransition", "(I)Z"⟩, prog_4_method_4_code, 2, (some .boolean), 3, 2, 2, false)
theorem G25 : mGm[25]? = some g25 := rfl
def tb25 : List (Nat × Instr × Nat) := [(0, .iload_n 1, 1), (1, .ifCond .lt (15), 3), (4, .iload_n 1, 1), (5, .aload_n 0, 1), (6, .getfield 25, 3), (9, .if_icmp .ge (7), 3), (12, .iconst (1), 1), (13, .goto (4), 3), (16, .iconst (0), 1), (17, .ireturn, 1)]
set_option maxRecDepth 20000 in
theorem D25 : tb25.all (dOk prog_4_method_4_code) = true := by decide +kernel
abbrev g27 : mG := (⟨"PlaceNets$Net", "move", "([II)V"⟩, prog_4_method_8_code, 4, none, 3, 3, 2, false)
theorem G27 : mGm[27]? = some g27 := rfl
def tb27 : List (Nat × Instr × Nat) := [(0, .aload_n 0, 1), (1, .iload_n 2, 1), (2, .invokevirtual 38, 3), (5, .ifCond .ne (4), 3), (8, .return_, 1), (9, .iconst (0), 1), (10, .istore_n 3, 1), (11, .iload_n 3, 1), (12, .aload_n 0, 1), (13, .getfield 21, 3), (16, .if_icmp .ge (21), 3), (19, .aload_n 1, 1), (20, .iload_n 3, 1), (21, .dup2, 1), (22, .iaload, 1), (23, .aload_n 0, 1), (24, .iload_n 2, 1), (25, .iload_n 3, 1), (26, .invokevirtual 42, 3), (29, .iadd, 1), (30, .iastore, 1), (31, .iinc 3 (1), 3), (34, .goto (-23), 3), (37, .return_, 1)]
set_option maxRecDepth 20000 in
theorem D27 : tb27.all (dOk prog_4_method_8_code) = true := by decide +kernel
abbrev g28 : mG := (⟨"PlaceNets$Net", "change", "(II)I"⟩, prog_4_method_5_code, 3, (some .int), 3, 3, 2, false)
theorem G28 : mGm[28]? = some g28 := rfl
def tb28 : List (Nat × Instr × Nat) := [(0, .aload_n 0, 1), (1, .getfield 18, 3), (4, .iload_n 1, 1), (5, .bipush (10), 2), (7, .imul, 1), (8, .iload_n 2, 1), (9, .iadd, 1), (10, .iaload, 1), (11, .aload_n 0, 1), (12, .getfield 15, 3), (15, .iload_n 1, 1), (16, .bipush (10), 2), (18, .imul, 1), (19, .iload_n 2, 1), (20, .iadd, 1), (21, .iaload, 1), (22, .isub, 1), (23, .ireturn, 1)]
set_option maxRecDepth 20000 in
theorem D28 : tb28.all (dOk prog_4_method_5_code) = true := by decide +kernel
abbrev g100 : mG := (⟨"PlaceNets$Net", "takenFrom", "(I)I"⟩, prog_4_method_9_code, 2, (some .int), 3, 2, 2, false)
theorem G100 : mGm[100]? = some g100 := rfl
def tb100 : List (Nat × Instr × Nat) := [(0, .aload_n 0, 1), (1, .aload_n 0, 1), (2, .getfield 15, 3), (5, .iload_n 1, 1), (6, .invokevirtual 46, 3), (9, .ireturn, 1)]
set_option maxRecDepth 20000 in
theorem D100 : tb100.all (dOk prog_4_method_9_code) = true := by decide +kernel
abbrev g101 : mG := (⟨"PlaceNets$Net", "placesIn", "([II)I"⟩, prog_4_method_11_code, 5, (some .int), 3, 3, 2, false)
theorem G101 : mGm[101]? = some g101 := rfl
def tb101 : List (Nat × Instr × Nat) := [(0, .iconst (0), 1), (1, .istore_n 3, 1), (2, .iconst (0), 1), (3, .istore 4, 2), (5, .iload 4, 2), (7, .aload_n 0, 1), (8, .getfield 21, 3), (11, .if_icmp .ge (28), 3), (14, .aload_n 1, 1), (15, .iload_n 2, 1), (16, .bipush (10), 2), (18, .imul, 1), (19, .iload 4, 2), (21, .iadd, 1), (22, .iaload, 1), (23, .ifCond .le (10), 3), (26, .iload_n 3, 1), (27, .iconst (1), 1), (28, .iload 4, 2), (30, .ishl, 1), (31, .ior, 1), (32, .istore_n 3, 1), (33, .iinc 4 (1), 3), (36, .goto (-31), 3), (39, .iload_n 3, 1), (40, .ireturn, 1)]
set_option maxRecDepth 20000 in
theorem D101 : tb101.all (dOk prog_4_method_11_code) = true := by decide +kernel
abbrev g102 : mG := (⟨"PlaceNets$Net", "putInto", "(I)I"⟩, prog_4_method_10_code, 2, (some .int), 3, 2, 2, false)
theorem G102 : mGm[102]? = some g102 := rfl
def tb102 : List (Nat × Instr × Nat) := [(0, .aload_n 0, 1), (1, .aload_n 0, 1), (2, .getfield 18, 3), (5, .iload_n 1, 1), (6, .invokevirtual 46, 3), (9, .ireturn, 1)]
set_option maxRecDepth 20000 in
theorem D102 : tb102.all (dOk prog_4_method_10_code) = true := by decide +kernel
abbrev g111 : mG := (⟨"PlaceNets$Net", "isPlain", "()Z"⟩, prog_4_method_14_code, 2, (some .boolean), 3, 1, 2, false)
theorem G111 : mGm[111]? = some g111 := rfl
def tb111 : List (Nat × Instr × Nat) := [(0, .iconst (0), 1), (1, .istore_n 1, 1), (2, .iload_n 1, 1), (3, .aload_n 0, 1), (4, .getfield 25, 3), (7, .bipush (10), 2), (9, .imul, 1), (10, .if_icmp .ge (31), 3), (13, .aload_n 0, 1), (14, .getfield 15, 3), (17, .iload_n 1, 1), (18, .iaload, 1), (19, .iconst (1), 1), (20, .if_icmp .gt (13), 3), (23, .aload_n 0, 1), (24, .getfield 18, 3), (27, .iload_n 1, 1), (28, .iaload, 1), (29, .iconst (1), 1), (30, .if_icmp .le (5), 3), (33, .iconst (0), 1), (34, .ireturn, 1), (35, .iinc 1 (1), 3), (38, .goto (-36), 3), (41, .iconst (1), 1), (42, .ireturn, 1)]
set_option maxRecDepth 20000 in
theorem D111 : tb111.all (dOk prog_4_method_14_code) = true := by decide +kernel
abbrev g112 : mG := (⟨"PlaceNets$Net", "isPure", "()Z"⟩, prog_4_method_15_code, 2, (some .boolean), 3, 1, 2, false)
theorem G112 : mGm[112]? = some g112 := rfl
def tb112 : List (Nat × Instr × Nat) := [(0, .iconst (0), 1), (1, .istore_n 1, 1), (2, .iload_n 1, 1), (3, .aload_n 0, 1), (4, .getfield 25, 3), (7, .if_icmp .ge (25), 3), (10, .aload_n 0, 1), (11, .iload_n 1, 1), (12, .invokevirtual 53, 3), (15, .aload_n 0, 1), (16, .iload_n 1, 1), (17, .invokevirtual 57, 3), (20, .iand, 1), (21, .ifCond .eq (5), 3), (24, .iconst (0), 1), (25, .ireturn, 1), (26, .iinc 1 (1), 3), (29, .goto (-27), 3), (32, .iconst (1), 1), (33, .ireturn, 1)]
set_option maxRecDepth 20000 in
theorem D112 : tb112.all (dOk prog_4_method_15_code) = true := by decide +kernel
abbrev g113 : mG := (⟨"PlaceNets$Net", "isMachine", "()Z"⟩, prog_4_method_16_code, 2, (some .boolean), 3, 1, 2, false)
theorem G113 : mGm[113]? = some g113 := rfl
def tb113 : List (Nat × Instr × Nat) := [(0, .iconst (0), 1), (1, .istore_n 1, 1), (2, .iload_n 1, 1), (3, .aload_n 0, 1), (4, .getfield 25, 3), (7, .if_icmp .ge (37), 3), (10, .aload_n 0, 1), (11, .aload_n 0, 1), (12, .getfield 15, 3), (15, .iload_n 1, 1), (16, .invokevirtual 50, 3), (19, .iconst (1), 1), (20, .if_icmp .ne (16), 3), (23, .aload_n 0, 1), (24, .aload_n 0, 1), (25, .getfield 18, 3), (28, .iload_n 1, 1), (29, .invokevirtual 50, 3), (32, .iconst (1), 1), (33, .if_icmp .eq (5), 3), (36, .iconst (0), 1), (37, .ireturn, 1), (38, .iinc 1 (1), 3), (41, .goto (-39), 3), (44, .iconst (1), 1), (45, .ireturn, 1)]
set_option maxRecDepth 20000 in
theorem D113 : tb113.all (dOk prog_4_method_16_code) = true := by decide +kernel
abbrev g114 : mG := (⟨"PlaceNets$Net", "sumOf", "([II)I"⟩, prog_4_method_13_code, 5, (some .int), 3, 3, 2, false)
theorem G114 : mGm[114]? = some g114 := rfl
def tb114 : List (Nat × Instr × Nat) := [(0, .iconst (0), 1), (1, .istore_n 3, 1), (2, .iconst (0), 1), (3, .istore 4, 2), (5, .iload 4, 2), (7, .aload_n 0, 1), (8, .getfield 21, 3), (11, .if_icmp .ge (21), 3), (14, .iload_n 3, 1), (15, .aload_n 1, 1), (16, .iload_n 2, 1), (17, .bipush (10), 2), (19, .imul, 1), (20, .iload 4, 2), (22, .iadd, 1), (23, .iaload, 1), (24, .iadd, 1), (25, .istore_n 3, 1), (26, .iinc 4 (1), 3), (29, .goto (-24), 3), (32, .iload_n 3, 1), (33, .ireturn, 1)]
set_option maxRecDepth 20000 in
theorem D114 : tb114.all (dOk prog_4_method_13_code) = true := by decide +kernel
abbrev g115 : mG := (⟨"PlaceNets$Net", "isCircuit", "()Z"⟩, prog_4_method_17_code, 4, (some .boolean), 3, 1, 2, false)
theorem G115 : mGm[115]? = some g115 := rfl
def tb115 : List (Nat × Instr × Nat) := [(0, .iconst (0), 1), (1, .istore_n 1, 1), (2, .iconst (0), 1), (3, .istore_n 2, 1), (4, .iconst (0), 1), (5, .istore_n 3, 1), (6, .iload_n 3, 1), (7, .aload_n 0, 1), (8, .getfield 25, 3), (11, .if_icmp .ge (47), 3), (14, .iload_n 1, 1), (15, .aload_n 0, 1), (16, .iload_n 3, 1), (17, .invokevirtual 53, 3), (20, .iand, 1), (21, .ifCond .ne (13), 3), (24, .iload_n 2, 1), (25, .aload_n 0, 1), (26, .iload_n 3, 1), (27, .invokevirtual 57, 3), (30, .iand, 1), (31, .ifCond .eq (5), 3), (34, .iconst (0), 1), (35, .ireturn, 1), (36, .iload_n 1, 1), (37, .aload_n 0, 1), (38, .iload_n 3, 1), (39, .invokevirtual 53, 3), (42, .ior, 1), (43, .istore_n 1, 1), (44, .iload_n 2, 1), (45, .aload_n 0, 1), (46, .iload_n 3, 1), (47, .invokevirtual 57, 3), (50, .ior, 1), (51, .istore_n 2, 1), (52, .iinc 3 (1), 3), (55, .goto (-49), 3), (58, .iconst (1), 1), (59, .ireturn, 1)]
set_option maxRecDepth 20000 in
theorem D115 : tb115.all (dOk prog_4_method_17_code) = true := by decide +kernel
abbrev g116 : mG := (⟨"PlaceNets$Net", "isFree", "()Z"⟩, prog_4_method_18_code, 5, (some .boolean), 3, 1, 2, false)
theorem G116 : mGm[116]? = some g116 := rfl
def tb116 : List (Nat × Instr × Nat) := [(0, .iconst (0), 1), (1, .istore_n 1, 1), (2, .iload_n 1, 1), (3, .aload_n 0, 1), (4, .getfield 25, 3), (7, .if_icmp .ge (50), 3), (10, .iconst (0), 1), (11, .istore_n 2, 1), (12, .iload_n 2, 1), (13, .iload_n 1, 1), (14, .if_icmp .ge (37), 3), (17, .aload_n 0, 1), (18, .iload_n 1, 1), (19, .invokevirtual 53, 3), (22, .istore_n 3, 1), (23, .aload_n 0, 1), (24, .iload_n 2, 1), (25, .invokevirtual 53, 3), (28, .istore 4, 2), (30, .iload_n 3, 1), (31, .iload 4, 2), (33, .iand, 1), (34, .ifCond .eq (11), 3), (37, .iload_n 3, 1), (38, .iload 4, 2), (40, .if_icmp .eq (5), 3), (43, .iconst (0), 1), (44, .ireturn, 1), (45, .iinc 2 (1), 3), (48, .goto (-36), 3), (51, .iinc 1 (1), 3), (54, .goto (-52), 3), (57, .iconst (1), 1), (58, .ireturn, 1)]
set_option maxRecDepth 20000 in
theorem D116 : tb116.all (dOk prog_4_method_18_code) = true := by decide +kernel
abbrev g125 : mG := (⟨"PlaceNets$Net", "takenInAll", "(I)I"⟩, prog_4_method_12_code, 2, (some .int), 3, 2, 2, false)
theorem G125 : mGm[125]? = some g125 := rfl
def tb125 : List (Nat × Instr × Nat) := [(0, .aload_n 0, 1), (1, .aload_n 0, 1), (2, .getfield 15, 3), (5, .iload_n 1, 1), (6, .invokevirtual 50, 3), (9, .ireturn, 1)]
set_option maxRecDepth 20000 in
theorem D125 : tb125.all (dOk prog_4_method_12_code) = true := by decide +kernel
-- PlaceNets$Net.clear.()V, from 0
set_option maxRecDepth 20000 in
theorem bk10_0 {d b : Nat} {Q : Option Value → mMem → Prop} {m : mMem} {x0 : Nat} (hT : mWT m) (hOx0 : m.1 x0 = some (.inr 2) ∧ x0 ≠ 0)
    (h : ∀ (m_1 : mMem), m_1 = (mSetF m x0 0 (.int 0)) → ∀ (m_3 : mMem), m_3 = (mSetF m_1 x0 1 (.int 0)) → mEv d 11 [.ref (64 * x0 + 1), .int 0] m_3 (fun r m' => mEs d 10 b g10 (18, [some (.ref x0)], r.toList ++ [], m') Q)) :
    mEs d 10 b g10 (0, [some (.ref x0)], [], m) Q := by
  refine e_aload_n (pc' := 1) (dAt D10 0 rfl) rfl rfl ?_
  refine e_iconst (pc' := 2) (v := 0) (dAt D10 1 rfl) rfl (by decide) ?_
  replace h := h _ rfl
  refine e_putfield (pc' := 5) (dAt D10 2 rfl) rfl rfl hOx0 rfl rfl (fun e => by cases e) ?_
  refine wtF hT hOx0 (by decide) (fun hT_2 => ?_)
  refine e_aload_n (pc' := 6) (dAt D10 3 rfl) rfl rfl ?_
  refine e_iconst (pc' := 7) (v := 0) (dAt D10 4 rfl) rfl (by decide) ?_
  replace h := h _ rfl
  refine e_putfield (pc' := 10) (dAt D10 5 rfl) rfl rfl hOx0 rfl rfl (fun e => by cases e) ?_
  refine wtF hT_2 hOx0 (by decide) (fun hT_4 => ?_)
  refine e_aload_n (pc' := 11) (dAt D10 6 rfl) rfl rfl ?_
  refine e_getfield (pc' := 14) (dAt D10 7 rfl) rfl rfl hOx0 (hT_4.own hOx0 0 rfl) ?_
  refine e_iconst (pc' := 15) (v := 0) (dAt D10 8 rfl) rfl (by decide) ?_
  exact e_call2 h (dAt D10 9 rfl) (hi2 rfl) rfl G11 (by decide) rfl (Nat.le_of_ble_eq_true rfl) rfl rfl rfl
-- PlaceNets$Net.clear.()V, from 18
set_option maxRecDepth 20000 in
theorem bk10_18 {d b : Nat} {Q : Option Value → mMem → Prop} {m : mMem} {x0 : Nat} (hT : mWT m) (hOx0 : m.1 x0 = some (.inr 2) ∧ x0 ≠ 0)
    (h : mEv d 11 [.ref (64 * x0 + 2), .int 0] m (fun r m' => mEs d 10 b g10 (26, [some (.ref x0)], r.toList ++ [], m') Q)) :
    mEs d 10 b g10 (18, [some (.ref x0)], [], m) Q := by
  refine e_aload_n (pc' := 19) (dAt D10 10 rfl) rfl rfl ?_
  refine e_getfield (pc' := 22) (dAt D10 11 rfl) rfl rfl hOx0 (hT.own hOx0 1 rfl) ?_
  refine e_iconst (pc' := 23) (v := 0) (dAt D10 12 rfl) rfl (by decide) ?_
  exact e_call2 h (dAt D10 13 rfl) (hi2 rfl) rfl G11 (by decide) rfl (Nat.le_of_ble_eq_true rfl) rfl rfl rfl
-- PlaceNets$Net.clear.()V, from 26
set_option maxRecDepth 20000 in
theorem bk10_26 {d b : Nat} {Q : Option Value → mMem → Prop} {m : mMem} {x0 : Nat} (hT : mWT m) (hOx0 : m.1 x0 = some (.inr 2) ∧ x0 ≠ 0)
    (h : mEv d 11 [.ref (64 * x0 + 3), .int 0] m (fun r m' => mEs d 10 b g10 (34, [some (.ref x0)], r.toList ++ [], m') Q)) :
    mEs d 10 b g10 (26, [some (.ref x0)], [], m) Q := by
  refine e_aload_n (pc' := 27) (dAt D10 14 rfl) rfl rfl ?_
  refine e_getfield (pc' := 30) (dAt D10 15 rfl) rfl rfl hOx0 (hT.own hOx0 2 rfl) ?_
  refine e_iconst (pc' := 31) (v := 0) (dAt D10 16 rfl) rfl (by decide) ?_
  exact e_call2 h (dAt D10 17 rfl) (hi2 rfl) rfl G11 (by decide) rfl (Nat.le_of_ble_eq_true rfl) rfl rfl rfl
-- PlaceNets$Net.clear.()V, from 34
set_option maxRecDepth 20000 in
theorem bk10_34 {d b : Nat} {Q : Option Value → mMem → Prop} {m : mMem} {x0 : Nat} (hT : mWT m) (hOx0 : m.1 x0 = some (.inr 2) ∧ x0 ≠ 0)
    (h : Q none m) :
    mEs d 10 b g10 (34, [some (.ref x0)], [], m) Q := by
  exact e_return (dAt D10 18 rfl) rfl h
-- PlaceNets$Net.hasPlace.(I)Z, from 0
set_option maxRecDepth 20000 in
theorem bk19_0 {d b : Nat} {Q : Option Value → mMem → Prop} {m : mMem} {x0 : Nat} {x1 : Int32} (hT : mWT m) (hOx0 : m.1 x0 = some (.inr 2) ∧ x0 ≠ 0)
    (h : (((x1 < 0) → (Q (some (.int 0)) m)) ∧ (¬ (x1 < 0) → ((((iF m x0 0) ≤ x1) → (Q (some (.int 0)) m)) ∧ (¬ ((iF m x0 0) ≤ x1) → (Q (some (.int 1)) m)))))) :
    mEs d 19 b g19 (0, [some (.ref x0), some (.int x1)], [], m) Q := by
  refine e_iload_n (pc' := 1) (dAt D19 0 rfl) rfl rfl ?_
  refine e_if_lt (t := 16) (pc' := 4) (dAt D19 1 rfl) ⟨by decide, by decide⟩ rfl (fun c => ?_) (fun c => ?_)
  · replace h := h.1 c
    refine e_iconst (pc' := 17) (v := 0) (dAt D19 8 rfl) rfl (by decide) ?_
    exact e_ireturn (dAt D19 9 rfl) rfl ⟨rfl, fun e => by cases e⟩ h
  · replace h := h.2 c
    refine e_iload_n (pc' := 5) (dAt D19 2 rfl) rfl rfl ?_
    refine e_aload_n (pc' := 6) (dAt D19 3 rfl) rfl rfl ?_
    refine e_getfield (pc' := 9) (dAt D19 4 rfl) rfl rfl hOx0 (hT.int hOx0 0 (by decide)) ?_
    refine e_icmp_ge (t := 16) (pc' := 12) (dAt D19 5 rfl) ⟨by decide, by decide⟩ rfl (fun c => ?_) (fun c => ?_)
    · replace h := h.1 c
      refine e_iconst (pc' := 17) (v := 0) (dAt D19 8 rfl) rfl (by decide) ?_
      exact e_ireturn (dAt D19 9 rfl) rfl ⟨rfl, fun e => by cases e⟩ h
    · replace h := h.2 c
      refine e_iconst (pc' := 13) (v := 1) (dAt D19 6 rfl) rfl (by decide) ?_
      refine e_goto (t := 17) (dAt D19 7 rfl) ⟨by decide, by decide⟩ ?_
      exact e_ireturn (dAt D19 9 rfl) rfl ⟨rfl, fun e => by cases e⟩ h
-- PlaceNets$Net.readyBits.([I)I, from 0
set_option maxRecDepth 20000 in
theorem bk22_0 {d b : Nat} {Q : Option Value → mMem → Prop} {m : mMem} {x0 : Nat} {x1 : Nat} {lx1 : Nat} {x2 : Option Value} {x3 : Option Value} (hT : mWT m) (hOx0 : m.1 x0 = some (.inr 2) ∧ x0 ≠ 0) (hAx1 : m.1 x1 = some (.inl (.int, lx1)) ∧ x1 ≠ 0)
    (h : mEs d 22 b g22 (4, [some (.ref x0), some (.ref x1), some (.int 0), some (.int 0)], [], m) Q) :
    mEs d 22 b g22 (0, [some (.ref x0), some (.ref x1), x2, x3], [], m) Q := by
  refine e_iconst (pc' := 1) (v := 0) (dAt D22 0 rfl) rfl (by decide) ?_
  refine e_istore_n (pc' := 2) (dAt D22 1 rfl) rfl (Nat.le_of_ble_eq_true rfl) rfl ?_
  refine e_iconst (pc' := 3) (v := 0) (dAt D22 2 rfl) rfl (by decide) ?_
  refine e_istore_n (pc' := 4) (dAt D22 3 rfl) rfl (Nat.le_of_ble_eq_true rfl) rfl ?_
  exact h
-- PlaceNets$Net.readyBits.([I)I, from 4
set_option maxRecDepth 20000 in
theorem bk22_4 {d b : Nat} {Q : Option Value → mMem → Prop} {m : mMem} {x0 : Nat} {x1 : Nat} {lx1 : Nat} {x2 : Int32} {x3 : Int32} (hT : mWT m) (hOx0 : m.1 x0 = some (.inr 2) ∧ x0 ≠ 0) (hAx1 : m.1 x1 = some (.inl (.int, lx1)) ∧ x1 ≠ 0)
    (h : ((((iF m x0 1) ≤ x3) → (Q (some (.int x2)) m)) ∧ (¬ ((iF m x0 1) ≤ x3) → (mEv d 23 [.ref x0, .ref x1, .int x3] m (fun r m' => mEs d 22 b g22 (18, [some (.ref x0), some (.ref x1), some (.int x2), some (.int x3)], r.toList ++ [], m') Q))))) :
    mEs d 22 b g22 (4, [some (.ref x0), some (.ref x1), some (.int x2), some (.int x3)], [], m) Q := by
  refine e_iload_n (pc' := 5) (dAt D22 4 rfl) rfl rfl ?_
  refine e_aload_n (pc' := 6) (dAt D22 5 rfl) rfl rfl ?_
  refine e_getfield (pc' := 9) (dAt D22 6 rfl) rfl rfl hOx0 (hT.int hOx0 1 (by decide)) ?_
  refine e_icmp_ge (t := 33) (pc' := 12) (dAt D22 7 rfl) ⟨by decide, by decide⟩ rfl (fun c => ?_) (fun c => ?_)
  · replace h := h.1 c
    refine e_iload_n (pc' := 34) (dAt D22 21 rfl) rfl rfl ?_
    exact e_ireturn (dAt D22 22 rfl) rfl ⟨rfl, fun e => by cases e⟩ h
  · replace h := h.2 c
    refine e_aload_n (pc' := 13) (dAt D22 8 rfl) rfl rfl ?_
    refine e_aload_n (pc' := 14) (dAt D22 9 rfl) rfl rfl ?_
    refine e_iload_n (pc' := 15) (dAt D22 10 rfl) rfl rfl ?_
    exact e_call2 h (dAt D22 11 rfl) (hi0 rfl) rfl G23 (by decide) rfl (Nat.le_of_ble_eq_true rfl) (kV hOx0 rfl rfl) rfl rfl
-- PlaceNets$Net.readyBits.([I)I, from 18
set_option maxRecDepth 20000 in
theorem bk22_18 {d b : Nat} {Q : Option Value → mMem → Prop} {m : mMem} {x0 : Nat} {x1 : Nat} {lx1 : Nat} {x2 : Int32} {x3 : Int32} {y0 : Int32} (hT : mWT m) (hOx0 : m.1 x0 = some (.inr 2) ∧ x0 ≠ 0) (hAx1 : m.1 x1 = some (.inl (.int, lx1)) ∧ x1 ≠ 0)
    (h : (((y0 = 0) → (∀ (v_1 : Int32), v_1 = (x3 + 1) → mEs d 22 b g22 (4, [some (.ref x0), some (.ref x1), some (.int x2), some (.int v_1)], [], m) Q)) ∧ (¬ (y0 = 0) → (∀ (v_2 : Int32), v_2 = (x2 ||| ((1 : Int32) <<< (x3 &&& 31))) → ∀ (v_3 : Int32), v_3 = (x3 + 1) → mEs d 22 b g22 (4, [some (.ref x0), some (.ref x1), some (.int v_2), some (.int v_3)], [], m) Q)))) :
    mEs d 22 b g22 (18, [some (.ref x0), some (.ref x1), some (.int x2), some (.int x3)], [.int y0], m) Q := by
  refine e_if_eq (t := 27) (pc' := 21) (dAt D22 12 rfl) ⟨by decide, by decide⟩ rfl (fun c => ?_) (fun c => ?_)
  · replace h := h.1 c
    replace h := h _ rfl
    refine e_iinc (pc' := 30) (dAt D22 19 rfl) rfl rfl (Nat.le_of_ble_eq_true rfl) (congrArg (_ + ·) (show Int32.ofInt (1) = (1 : Int32) by decide)) rfl ?_
    refine e_goto (t := 4) (dAt D22 20 rfl) ⟨by decide, by decide⟩ ?_
    exact h
  · replace h := h.2 c
    refine e_iload_n (pc' := 22) (dAt D22 13 rfl) rfl rfl ?_
    refine e_iconst (pc' := 23) (v := 1) (dAt D22 14 rfl) rfl (by decide) ?_
    refine e_iload_n (pc' := 24) (dAt D22 15 rfl) rfl rfl ?_
    refine e_ishl (pc' := 25) (dAt D22 16 rfl) rfl ?_
    refine e_ior (pc' := 26) (dAt D22 17 rfl) rfl ?_
    replace h := h _ rfl
    refine e_istore_n (pc' := 27) (dAt D22 18 rfl) rfl (Nat.le_of_ble_eq_true rfl) rfl ?_
    replace h := h _ rfl
    refine e_iinc (pc' := 30) (dAt D22 19 rfl) rfl rfl (Nat.le_of_ble_eq_true rfl) (congrArg (_ + ·) (show Int32.ofInt (1) = (1 : Int32) by decide)) rfl ?_
    refine e_goto (t := 4) (dAt D22 20 rfl) ⟨by decide, by decide⟩ ?_
    exact h
-- PlaceNets$Net.isReady.([II)Z, from 0
set_option maxRecDepth 20000 in
theorem bk23_0 {d b : Nat} {Q : Option Value → mMem → Prop} {m : mMem} {x0 : Nat} {x1 : Nat} {lx1 : Nat} {x2 : Int32} {x3 : Option Value} {x4 : Option Value} (hT : mWT m) (hOx0 : m.1 x0 = some (.inr 2) ∧ x0 ≠ 0) (hAx1 : m.1 x1 = some (.inl (.int, lx1)) ∧ x1 ≠ 0)
    (h : mEs d 23 b g23 (2, [some (.ref x0), some (.ref x1), some (.int x2), some (.int 0), x4], [], m) Q) :
    mEs d 23 b g23 (0, [some (.ref x0), some (.ref x1), some (.int x2), x3, x4], [], m) Q := by
  refine e_iconst (pc' := 1) (v := 0) (dAt D23 0 rfl) rfl (by decide) ?_
  refine e_istore_n (pc' := 2) (dAt D23 1 rfl) rfl (Nat.le_of_ble_eq_true rfl) rfl ?_
  exact h
-- PlaceNets$Net.isReady.([II)Z, from 2
set_option maxRecDepth 20000 in
theorem bk23_2 {d b : Nat} {Q : Option Value → mMem → Prop} {m : mMem} {x0 : Nat} {x1 : Nat} {lx1 : Nat} {x2 : Int32} {x3 : Int32} {x4 : Option Value} (hT : mWT m) (hOx0 : m.1 x0 = some (.inr 2) ∧ x0 ≠ 0) (hAx1 : m.1 x1 = some (.inl (.int, lx1)) ∧ x1 ≠ 0)
    (h : ((((iF m x0 0) ≤ x3) → (Q (some (.int 1)) m)) ∧ (¬ ((iF m x0 0) ≤ x3) → ((mIn x3 lx1 = true) ∧ ((mIn ((x2 * 10) + x3) 110 = true) ∧ (∀ (v_1 : Int32), v_1 = ((m.2.2.1 x1 x3.toNatClampNeg) - (m.2.2.1 (64 * x0 + 2) ((x2 * 10) + x3).toNatClampNeg)) → (((v_1 < 0) → (Q (some (.int 0)) m)) ∧ (¬ (v_1 < 0) → ((mIn ((x2 * 10) + x3) 110 = true) ∧ ((((v_1 + (m.2.2.1 (64 * x0 + 3) ((x2 * 10) + x3).toNatClampNeg)) ≤ 99) → (∀ (v_2 : Int32), v_2 = (x3 + 1) → mEs d 23 b g23 (2, [some (.ref x0), some (.ref x1), some (.int x2), some (.int v_2), some (.int v_1)], [], m) Q)) ∧ (¬ ((v_1 + (m.2.2.1 (64 * x0 + 3) ((x2 * 10) + x3).toNatClampNeg)) ≤ 99) → (Q (some (.int 0)) m)))))))))))) :
    mEs d 23 b g23 (2, [some (.ref x0), some (.ref x1), some (.int x2), some (.int x3), x4], [], m) Q := by
  refine e_iload_n (pc' := 3) (dAt D23 2 rfl) rfl rfl ?_
  refine e_aload_n (pc' := 4) (dAt D23 3 rfl) rfl rfl ?_
  refine e_getfield (pc' := 7) (dAt D23 4 rfl) rfl rfl hOx0 (hT.int hOx0 0 (by decide)) ?_
  refine e_icmp_ge (t := 59) (pc' := 10) (dAt D23 5 rfl) ⟨by decide, by decide⟩ rfl (fun c => ?_) (fun c => ?_)
  · replace h := h.1 c
    refine e_iconst (pc' := 60) (v := 1) (dAt D23 37 rfl) rfl (by decide) ?_
    exact e_ireturn (dAt D23 38 rfl) rfl ⟨rfl, fun e => by cases e⟩ h
  · replace h := h.2 c
    refine e_aload_n (pc' := 11) (dAt D23 6 rfl) rfl rfl ?_
    refine e_iload_n (pc' := 12) (dAt D23 7 rfl) rfl rfl ?_
    obtain ⟨f1, h⟩ := h
    refine e_iaload (pc' := 13) (dAt D23 8 rfl) rfl hAx1.1 (Or.inl hAx1.2) f1 rfl ?_
    refine e_aload_n (pc' := 14) (dAt D23 9 rfl) rfl rfl ?_
    refine e_getfield (pc' := 17) (dAt D23 10 rfl) rfl rfl hOx0 (hT.own hOx0 1 rfl) ?_
    refine e_iload_n (pc' := 18) (dAt D23 11 rfl) rfl rfl ?_
    refine e_bipush (pc' := 20) (v := 10) (dAt D23 12 rfl) rfl (by decide) ?_
    refine e_imul (pc' := 21) (dAt D23 13 rfl) rfl ?_
    refine e_iload_n (pc' := 22) (dAt D23 14 rfl) rfl rfl ?_
    refine e_iadd (pc' := 23) (dAt D23 15 rfl) rfl ?_
    obtain ⟨f1, h⟩ := h
    refine e_iaload (pc' := 24) (dAt D23 16 rfl) rfl (hT.arr hOx0 1 rfl (by decide)).1 (Or.inl (hT.arr hOx0 1 rfl (by decide)).2) f1 rfl ?_
    refine e_isub (pc' := 25) (dAt D23 17 rfl) rfl ?_
    replace h := h _ rfl
    refine e_istore (pc' := 27) (dAt D23 18 rfl) rfl (Nat.le_of_ble_eq_true rfl) rfl ?_
    refine e_iload (pc' := 29) (dAt D23 19 rfl) rfl rfl ?_
    refine e_if_lt (t := 51) (pc' := 32) (dAt D23 20 rfl) ⟨by decide, by decide⟩ rfl (fun c => ?_) (fun c => ?_)
    · replace h := h.1 c
      refine e_iconst (pc' := 52) (v := 0) (dAt D23 33 rfl) rfl (by decide) ?_
      exact e_ireturn (dAt D23 34 rfl) rfl ⟨rfl, fun e => by cases e⟩ h
    · replace h := h.2 c
      refine e_iload (pc' := 34) (dAt D23 21 rfl) rfl rfl ?_
      refine e_aload_n (pc' := 35) (dAt D23 22 rfl) rfl rfl ?_
      refine e_getfield (pc' := 38) (dAt D23 23 rfl) rfl rfl hOx0 (hT.own hOx0 2 rfl) ?_
      refine e_iload_n (pc' := 39) (dAt D23 24 rfl) rfl rfl ?_
      refine e_bipush (pc' := 41) (v := 10) (dAt D23 25 rfl) rfl (by decide) ?_
      refine e_imul (pc' := 42) (dAt D23 26 rfl) rfl ?_
      refine e_iload_n (pc' := 43) (dAt D23 27 rfl) rfl rfl ?_
      refine e_iadd (pc' := 44) (dAt D23 28 rfl) rfl ?_
      obtain ⟨f1, h⟩ := h
      refine e_iaload (pc' := 45) (dAt D23 29 rfl) rfl (hT.arr hOx0 2 rfl (by decide)).1 (Or.inl (hT.arr hOx0 2 rfl (by decide)).2) f1 rfl ?_
      refine e_iadd (pc' := 46) (dAt D23 30 rfl) rfl ?_
      refine e_bipush (pc' := 48) (v := 99) (dAt D23 31 rfl) rfl (by decide) ?_
      refine e_icmp_le (t := 53) (pc' := 51) (dAt D23 32 rfl) ⟨by decide, by decide⟩ rfl (fun c => ?_) (fun c => ?_)
      · replace h := h.1 c
        replace h := h _ rfl
        refine e_iinc (pc' := 56) (dAt D23 35 rfl) rfl rfl (Nat.le_of_ble_eq_true rfl) (congrArg (_ + ·) (show Int32.ofInt (1) = (1 : Int32) by decide)) rfl ?_
        refine e_goto (t := 2) (dAt D23 36 rfl) ⟨by decide, by decide⟩ ?_
        exact h
      · replace h := h.2 c
        refine e_iconst (pc' := 52) (v := 0) (dAt D23 33 rfl) rfl (by decide) ?_
        exact e_ireturn (dAt D23 34 rfl) rfl ⟨rfl, fun e => by cases e⟩ h
-- PlaceNets$Net.hasTransition.(I)Z, from 0
set_option maxRecDepth 20000 in
theorem bk25_0 {d b : Nat} {Q : Option Value → mMem → Prop} {m : mMem} {x0 : Nat} {x1 : Int32} (hT : mWT m) (hOx0 : m.1 x0 = some (.inr 2) ∧ x0 ≠ 0)
    (h : (((x1 < 0) → (Q (some (.int 0)) m)) ∧ (¬ (x1 < 0) → ((((iF m x0 1) ≤ x1) → (Q (some (.int 0)) m)) ∧ (¬ ((iF m x0 1) ≤ x1) → (Q (some (.int 1)) m)))))) :
    mEs d 25 b g25 (0, [some (.ref x0), some (.int x1)], [], m) Q := by
  refine e_iload_n (pc' := 1) (dAt D25 0 rfl) rfl rfl ?_
  refine e_if_lt (t := 16) (pc' := 4) (dAt D25 1 rfl) ⟨by decide, by decide⟩ rfl (fun c => ?_) (fun c => ?_)
  · replace h := h.1 c
    refine e_iconst (pc' := 17) (v := 0) (dAt D25 8 rfl) rfl (by decide) ?_
    exact e_ireturn (dAt D25 9 rfl) rfl ⟨rfl, fun e => by cases e⟩ h
  · replace h := h.2 c
    refine e_iload_n (pc' := 5) (dAt D25 2 rfl) rfl rfl ?_
    refine e_aload_n (pc' := 6) (dAt D25 3 rfl) rfl rfl ?_
    refine e_getfield (pc' := 9) (dAt D25 4 rfl) rfl rfl hOx0 (hT.int hOx0 1 (by decide)) ?_
    refine e_icmp_ge (t := 16) (pc' := 12) (dAt D25 5 rfl) ⟨by decide, by decide⟩ rfl (fun c => ?_) (fun c => ?_)
    · replace h := h.1 c
      refine e_iconst (pc' := 17) (v := 0) (dAt D25 8 rfl) rfl (by decide) ?_
      exact e_ireturn (dAt D25 9 rfl) rfl ⟨rfl, fun e => by cases e⟩ h
    · replace h := h.2 c
      refine e_iconst (pc' := 13) (v := 1) (dAt D25 6 rfl) rfl (by decide) ?_
      refine e_goto (t := 17) (dAt D25 7 rfl) ⟨by decide, by decide⟩ ?_
      exact e_ireturn (dAt D25 9 rfl) rfl ⟨rfl, fun e => by cases e⟩ h
-- PlaceNets$Net.move.([II)V, from 0
set_option maxRecDepth 20000 in
theorem bk27_0 {d b : Nat} {Q : Option Value → mMem → Prop} {m : mMem} {x0 : Nat} {x1 : Nat} {lx1 : Nat} {x2 : Int32} {x3 : Option Value} (hT : mWT m) (hOx0 : m.1 x0 = some (.inr 2) ∧ x0 ≠ 0) (hAx1 : m.1 x1 = some (.inl (.int, lx1)) ∧ x1 ≠ 0)
    (h : mEv d 25 [.ref x0, .int x2] m (fun r m' => mEs d 27 b g27 (5, [some (.ref x0), some (.ref x1), some (.int x2), x3], r.toList ++ [], m') Q)) :
    mEs d 27 b g27 (0, [some (.ref x0), some (.ref x1), some (.int x2), x3], [], m) Q := by
  refine e_aload_n (pc' := 1) (dAt D27 0 rfl) rfl rfl ?_
  refine e_iload_n (pc' := 2) (dAt D27 1 rfl) rfl rfl ?_
  exact e_call2 h (dAt D27 2 rfl) (hi0 rfl) rfl G25 (by decide) rfl (Nat.le_of_ble_eq_true rfl) (kV hOx0 rfl rfl) rfl rfl
-- PlaceNets$Net.move.([II)V, from 5
set_option maxRecDepth 20000 in
theorem bk27_5 {d b : Nat} {Q : Option Value → mMem → Prop} {m : mMem} {x0 : Nat} {x1 : Nat} {lx1 : Nat} {x2 : Int32} {x3 : Option Value} {y0 : Int32} (hT : mWT m) (hOx0 : m.1 x0 = some (.inr 2) ∧ x0 ≠ 0) (hAx1 : m.1 x1 = some (.inl (.int, lx1)) ∧ x1 ≠ 0)
    (h : (((¬ y0 = 0) → (mEs d 27 b g27 (11, [some (.ref x0), some (.ref x1), some (.int x2), some (.int 0)], [], m) Q)) ∧ (¬ (¬ y0 = 0) → (Q none m)))) :
    mEs d 27 b g27 (5, [some (.ref x0), some (.ref x1), some (.int x2), x3], [.int y0], m) Q := by
  refine e_if_ne (t := 9) (pc' := 8) (dAt D27 3 rfl) ⟨by decide, by decide⟩ rfl (fun c => ?_) (fun c => ?_)
  · replace h := h.1 c
    refine e_iconst (pc' := 10) (v := 0) (dAt D27 5 rfl) rfl (by decide) ?_
    refine e_istore_n (pc' := 11) (dAt D27 6 rfl) rfl (Nat.le_of_ble_eq_true rfl) rfl ?_
    exact h
  · replace h := h.2 c
    exact e_return (dAt D27 4 rfl) rfl h
-- PlaceNets$Net.move.([II)V, from 11
set_option maxRecDepth 20000 in
theorem bk27_11 {d b : Nat} {Q : Option Value → mMem → Prop} {m : mMem} {x0 : Nat} {x1 : Nat} {lx1 : Nat} {x2 : Int32} {x3 : Int32} (hT : mWT m) (hOx0 : m.1 x0 = some (.inr 2) ∧ x0 ≠ 0) (hAx1 : m.1 x1 = some (.inl (.int, lx1)) ∧ x1 ≠ 0)
    (h : ((((iF m x0 0) ≤ x3) → (Q none m)) ∧ (¬ ((iF m x0 0) ≤ x3) → ((mIn x3 lx1 = true) ∧ (mEv d 28 [.ref x0, .int x2, .int x3] m (fun r m' => mEs d 27 b g27 (29, [some (.ref x0), some (.ref x1), some (.int x2), some (.int x3)], r.toList ++ [.int (m.2.2.1 x1 x3.toNatClampNeg), .int x3, .ref x1], m') Q)))))) :
    mEs d 27 b g27 (11, [some (.ref x0), some (.ref x1), some (.int x2), some (.int x3)], [], m) Q := by
  refine e_iload_n (pc' := 12) (dAt D27 7 rfl) rfl rfl ?_
  refine e_aload_n (pc' := 13) (dAt D27 8 rfl) rfl rfl ?_
  refine e_getfield (pc' := 16) (dAt D27 9 rfl) rfl rfl hOx0 (hT.int hOx0 0 (by decide)) ?_
  refine e_icmp_ge (t := 37) (pc' := 19) (dAt D27 10 rfl) ⟨by decide, by decide⟩ rfl (fun c => ?_) (fun c => ?_)
  · replace h := h.1 c
    exact e_return (dAt D27 23 rfl) rfl h
  · replace h := h.2 c
    refine e_aload_n (pc' := 20) (dAt D27 11 rfl) rfl rfl ?_
    refine e_iload_n (pc' := 21) (dAt D27 12 rfl) rfl rfl ?_
    refine e_dup2 (pc' := 22) (dAt D27 13 rfl) rfl ⟨rfl, rfl⟩ ?_
    obtain ⟨f1, h⟩ := h
    refine e_iaload (pc' := 23) (dAt D27 14 rfl) rfl hAx1.1 (Or.inl hAx1.2) f1 rfl ?_
    refine e_aload_n (pc' := 24) (dAt D27 15 rfl) rfl rfl ?_
    refine e_iload_n (pc' := 25) (dAt D27 16 rfl) rfl rfl ?_
    refine e_iload_n (pc' := 26) (dAt D27 17 rfl) rfl rfl ?_
    exact e_call2 h (dAt D27 18 rfl) (hi0 rfl) rfl G28 (by decide) rfl (Nat.le_of_ble_eq_true rfl) (kV hOx0 rfl rfl) rfl rfl
-- PlaceNets$Net.move.([II)V, from 29
set_option maxRecDepth 20000 in
theorem bk27_29 {d b : Nat} {Q : Option Value → mMem → Prop} {m : mMem} {x0 : Nat} {x1 : Nat} {lx1 : Nat} {x2 : Int32} {x3 : Int32} {y0 : Nat} {ly0 : Nat} {y1 : Int32} {y2 : Int32} {y3 : Int32} (hT : mWT m) (hOx0 : m.1 x0 = some (.inr 2) ∧ x0 ≠ 0) (hAx1 : m.1 x1 = some (.inl (.int, lx1)) ∧ x1 ≠ 0) (hAy0 : m.1 y0 = some (.inl (.int, ly0)) ∧ y0 ≠ 0)
    (h : (mIn y1 ly0 = true) ∧ (∀ (m_1 : mMem), m_1 = (mSetI m y0 (upd (m.2.2.1 y0) y1.toNatClampNeg (y2 + y3))) → ∀ (v_3 : Int32), v_3 = (x3 + 1) → mEs d 27 b g27 (11, [some (.ref x0), some (.ref x1), some (.int x2), some (.int v_3)], [], m_1) Q)) :
    mEs d 27 b g27 (29, [some (.ref x0), some (.ref x1), some (.int x2), some (.int x3)], [.int y3, .int y2, .int y1, .ref y0], m) Q := by
  refine e_iadd (pc' := 30) (dAt D27 19 rfl) rfl ?_
  obtain ⟨f1, h⟩ := h
  replace h := h _ rfl
  refine e_iastore (pc' := 31) (dAt D27 20 rfl) rfl hAy0.1 hAy0.2 f1 (nar_i _) ?_
  refine wtI hT (fun hT_2 => ?_)
  replace h := h _ rfl
  refine e_iinc (pc' := 34) (dAt D27 21 rfl) rfl rfl (Nat.le_of_ble_eq_true rfl) (congrArg (_ + ·) (show Int32.ofInt (1) = (1 : Int32) by decide)) rfl ?_
  refine e_goto (t := 11) (dAt D27 22 rfl) ⟨by decide, by decide⟩ ?_
  exact h
-- PlaceNets$Net.change.(II)I, from 0
set_option maxRecDepth 20000 in
theorem bk28_0 {d b : Nat} {Q : Option Value → mMem → Prop} {m : mMem} {x0 : Nat} {x1 : Int32} {x2 : Int32} (hT : mWT m) (hOx0 : m.1 x0 = some (.inr 2) ∧ x0 ≠ 0)
    (h : (mIn ((x1 * 10) + x2) 110 = true) ∧ ((mIn ((x1 * 10) + x2) 110 = true) ∧ (Q (some (.int ((m.2.2.1 (64 * x0 + 3) ((x1 * 10) + x2).toNatClampNeg) - (m.2.2.1 (64 * x0 + 2) ((x1 * 10) + x2).toNatClampNeg)))) m))) :
    mEs d 28 b g28 (0, [some (.ref x0), some (.int x1), some (.int x2)], [], m) Q := by
  refine e_aload_n (pc' := 1) (dAt D28 0 rfl) rfl rfl ?_
  refine e_getfield (pc' := 4) (dAt D28 1 rfl) rfl rfl hOx0 (hT.own hOx0 2 rfl) ?_
  refine e_iload_n (pc' := 5) (dAt D28 2 rfl) rfl rfl ?_
  refine e_bipush (pc' := 7) (v := 10) (dAt D28 3 rfl) rfl (by decide) ?_
  refine e_imul (pc' := 8) (dAt D28 4 rfl) rfl ?_
  refine e_iload_n (pc' := 9) (dAt D28 5 rfl) rfl rfl ?_
  refine e_iadd (pc' := 10) (dAt D28 6 rfl) rfl ?_
  obtain ⟨f1, h⟩ := h
  refine e_iaload (pc' := 11) (dAt D28 7 rfl) rfl (hT.arr hOx0 2 rfl (by decide)).1 (Or.inl (hT.arr hOx0 2 rfl (by decide)).2) f1 rfl ?_
  refine e_aload_n (pc' := 12) (dAt D28 8 rfl) rfl rfl ?_
  refine e_getfield (pc' := 15) (dAt D28 9 rfl) rfl rfl hOx0 (hT.own hOx0 1 rfl) ?_
  refine e_iload_n (pc' := 16) (dAt D28 10 rfl) rfl rfl ?_
  refine e_bipush (pc' := 18) (v := 10) (dAt D28 11 rfl) rfl (by decide) ?_
  refine e_imul (pc' := 19) (dAt D28 12 rfl) rfl ?_
  refine e_iload_n (pc' := 20) (dAt D28 13 rfl) rfl rfl ?_
  refine e_iadd (pc' := 21) (dAt D28 14 rfl) rfl ?_
  obtain ⟨f1, h⟩ := h
  refine e_iaload (pc' := 22) (dAt D28 15 rfl) rfl (hT.arr hOx0 1 rfl (by decide)).1 (Or.inl (hT.arr hOx0 1 rfl (by decide)).2) f1 rfl ?_
  refine e_isub (pc' := 23) (dAt D28 16 rfl) rfl ?_
  exact e_ireturn (dAt D28 17 rfl) rfl ⟨rfl, fun e => by cases e⟩ h
-- PlaceNets$Net.takenFrom.(I)I, from 0
set_option maxRecDepth 20000 in
theorem bk100_0 {d b : Nat} {Q : Option Value → mMem → Prop} {m : mMem} {x0 : Nat} {x1 : Int32} (hT : mWT m) (hOx0 : m.1 x0 = some (.inr 2) ∧ x0 ≠ 0)
    (h : mEv d 101 [.ref x0, .ref (64 * x0 + 2), .int x1] m (fun r m' => mEs d 100 b g100 (9, [some (.ref x0), some (.int x1)], r.toList ++ [], m') Q)) :
    mEs d 100 b g100 (0, [some (.ref x0), some (.int x1)], [], m) Q := by
  refine e_aload_n (pc' := 1) (dAt D100 0 rfl) rfl rfl ?_
  refine e_aload_n (pc' := 2) (dAt D100 1 rfl) rfl rfl ?_
  refine e_getfield (pc' := 5) (dAt D100 2 rfl) rfl rfl hOx0 (hT.own hOx0 1 rfl) ?_
  refine e_iload_n (pc' := 6) (dAt D100 3 rfl) rfl rfl ?_
  exact e_call2 h (dAt D100 4 rfl) (hi0 rfl) rfl G101 (by decide) rfl (Nat.le_of_ble_eq_true rfl) (kV hOx0 rfl rfl) rfl rfl
-- PlaceNets$Net.takenFrom.(I)I, from 9
set_option maxRecDepth 20000 in
theorem bk100_9 {d b : Nat} {Q : Option Value → mMem → Prop} {m : mMem} {x0 : Nat} {x1 : Int32} {y0 : Int32} (hT : mWT m) (hOx0 : m.1 x0 = some (.inr 2) ∧ x0 ≠ 0)
    (h : Q (some (.int y0)) m) :
    mEs d 100 b g100 (9, [some (.ref x0), some (.int x1)], [.int y0], m) Q := by
  exact e_ireturn (dAt D100 5 rfl) rfl ⟨rfl, fun e => by cases e⟩ h
-- PlaceNets$Net.placesIn.([II)I, from 0
set_option maxRecDepth 20000 in
theorem bk101_0 {d b : Nat} {Q : Option Value → mMem → Prop} {m : mMem} {x0 : Nat} {x1 : Nat} {lx1 : Nat} {x2 : Int32} {x3 : Option Value} {x4 : Option Value} (hT : mWT m) (hOx0 : m.1 x0 = some (.inr 2) ∧ x0 ≠ 0) (hAx1 : m.1 x1 = some (.inl (.int, lx1)) ∧ x1 ≠ 0)
    (h : mEs d 101 b g101 (5, [some (.ref x0), some (.ref x1), some (.int x2), some (.int 0), some (.int 0)], [], m) Q) :
    mEs d 101 b g101 (0, [some (.ref x0), some (.ref x1), some (.int x2), x3, x4], [], m) Q := by
  refine e_iconst (pc' := 1) (v := 0) (dAt D101 0 rfl) rfl (by decide) ?_
  refine e_istore_n (pc' := 2) (dAt D101 1 rfl) rfl (Nat.le_of_ble_eq_true rfl) rfl ?_
  refine e_iconst (pc' := 3) (v := 0) (dAt D101 2 rfl) rfl (by decide) ?_
  refine e_istore (pc' := 5) (dAt D101 3 rfl) rfl (Nat.le_of_ble_eq_true rfl) rfl ?_
  exact h
-- PlaceNets$Net.placesIn.([II)I, from 5
set_option maxRecDepth 20000 in
theorem bk101_5 {d b : Nat} {Q : Option Value → mMem → Prop} {m : mMem} {x0 : Nat} {x1 : Nat} {lx1 : Nat} {x2 : Int32} {x3 : Int32} {x4 : Int32} (hT : mWT m) (hOx0 : m.1 x0 = some (.inr 2) ∧ x0 ≠ 0) (hAx1 : m.1 x1 = some (.inl (.int, lx1)) ∧ x1 ≠ 0)
    (h : ((((iF m x0 0) ≤ x4) → (Q (some (.int x3)) m)) ∧ (¬ ((iF m x0 0) ≤ x4) → ((mIn ((x2 * 10) + x4) lx1 = true) ∧ ((((m.2.2.1 x1 ((x2 * 10) + x4).toNatClampNeg) ≤ 0) → (∀ (v_1 : Int32), v_1 = (x4 + 1) → mEs d 101 b g101 (5, [some (.ref x0), some (.ref x1), some (.int x2), some (.int x3), some (.int v_1)], [], m) Q)) ∧ (¬ ((m.2.2.1 x1 ((x2 * 10) + x4).toNatClampNeg) ≤ 0) → (∀ (v_2 : Int32), v_2 = (x3 ||| ((1 : Int32) <<< (x4 &&& 31))) → ∀ (v_3 : Int32), v_3 = (x4 + 1) → mEs d 101 b g101 (5, [some (.ref x0), some (.ref x1), some (.int x2), some (.int v_2), some (.int v_3)], [], m) Q))))))) :
    mEs d 101 b g101 (5, [some (.ref x0), some (.ref x1), some (.int x2), some (.int x3), some (.int x4)], [], m) Q := by
  refine e_iload (pc' := 7) (dAt D101 4 rfl) rfl rfl ?_
  refine e_aload_n (pc' := 8) (dAt D101 5 rfl) rfl rfl ?_
  refine e_getfield (pc' := 11) (dAt D101 6 rfl) rfl rfl hOx0 (hT.int hOx0 0 (by decide)) ?_
  refine e_icmp_ge (t := 39) (pc' := 14) (dAt D101 7 rfl) ⟨by decide, by decide⟩ rfl (fun c => ?_) (fun c => ?_)
  · replace h := h.1 c
    refine e_iload_n (pc' := 40) (dAt D101 24 rfl) rfl rfl ?_
    exact e_ireturn (dAt D101 25 rfl) rfl ⟨rfl, fun e => by cases e⟩ h
  · replace h := h.2 c
    refine e_aload_n (pc' := 15) (dAt D101 8 rfl) rfl rfl ?_
    refine e_iload_n (pc' := 16) (dAt D101 9 rfl) rfl rfl ?_
    refine e_bipush (pc' := 18) (v := 10) (dAt D101 10 rfl) rfl (by decide) ?_
    refine e_imul (pc' := 19) (dAt D101 11 rfl) rfl ?_
    refine e_iload (pc' := 21) (dAt D101 12 rfl) rfl rfl ?_
    refine e_iadd (pc' := 22) (dAt D101 13 rfl) rfl ?_
    obtain ⟨f1, h⟩ := h
    refine e_iaload (pc' := 23) (dAt D101 14 rfl) rfl hAx1.1 (Or.inl hAx1.2) f1 rfl ?_
    refine e_if_le (t := 33) (pc' := 26) (dAt D101 15 rfl) ⟨by decide, by decide⟩ rfl (fun c => ?_) (fun c => ?_)
    · replace h := h.1 c
      replace h := h _ rfl
      refine e_iinc (pc' := 36) (dAt D101 22 rfl) rfl rfl (Nat.le_of_ble_eq_true rfl) (congrArg (_ + ·) (show Int32.ofInt (1) = (1 : Int32) by decide)) rfl ?_
      refine e_goto (t := 5) (dAt D101 23 rfl) ⟨by decide, by decide⟩ ?_
      exact h
    · replace h := h.2 c
      refine e_iload_n (pc' := 27) (dAt D101 16 rfl) rfl rfl ?_
      refine e_iconst (pc' := 28) (v := 1) (dAt D101 17 rfl) rfl (by decide) ?_
      refine e_iload (pc' := 30) (dAt D101 18 rfl) rfl rfl ?_
      refine e_ishl (pc' := 31) (dAt D101 19 rfl) rfl ?_
      refine e_ior (pc' := 32) (dAt D101 20 rfl) rfl ?_
      replace h := h _ rfl
      refine e_istore_n (pc' := 33) (dAt D101 21 rfl) rfl (Nat.le_of_ble_eq_true rfl) rfl ?_
      replace h := h _ rfl
      refine e_iinc (pc' := 36) (dAt D101 22 rfl) rfl rfl (Nat.le_of_ble_eq_true rfl) (congrArg (_ + ·) (show Int32.ofInt (1) = (1 : Int32) by decide)) rfl ?_
      refine e_goto (t := 5) (dAt D101 23 rfl) ⟨by decide, by decide⟩ ?_
      exact h
-- PlaceNets$Net.putInto.(I)I, from 0
set_option maxRecDepth 20000 in
theorem bk102_0 {d b : Nat} {Q : Option Value → mMem → Prop} {m : mMem} {x0 : Nat} {x1 : Int32} (hT : mWT m) (hOx0 : m.1 x0 = some (.inr 2) ∧ x0 ≠ 0)
    (h : mEv d 101 [.ref x0, .ref (64 * x0 + 3), .int x1] m (fun r m' => mEs d 102 b g102 (9, [some (.ref x0), some (.int x1)], r.toList ++ [], m') Q)) :
    mEs d 102 b g102 (0, [some (.ref x0), some (.int x1)], [], m) Q := by
  refine e_aload_n (pc' := 1) (dAt D102 0 rfl) rfl rfl ?_
  refine e_aload_n (pc' := 2) (dAt D102 1 rfl) rfl rfl ?_
  refine e_getfield (pc' := 5) (dAt D102 2 rfl) rfl rfl hOx0 (hT.own hOx0 2 rfl) ?_
  refine e_iload_n (pc' := 6) (dAt D102 3 rfl) rfl rfl ?_
  exact e_call2 h (dAt D102 4 rfl) (hi0 rfl) rfl G101 (by decide) rfl (Nat.le_of_ble_eq_true rfl) (kV hOx0 rfl rfl) rfl rfl
-- PlaceNets$Net.putInto.(I)I, from 9
set_option maxRecDepth 20000 in
theorem bk102_9 {d b : Nat} {Q : Option Value → mMem → Prop} {m : mMem} {x0 : Nat} {x1 : Int32} {y0 : Int32} (hT : mWT m) (hOx0 : m.1 x0 = some (.inr 2) ∧ x0 ≠ 0)
    (h : Q (some (.int y0)) m) :
    mEs d 102 b g102 (9, [some (.ref x0), some (.int x1)], [.int y0], m) Q := by
  exact e_ireturn (dAt D102 5 rfl) rfl ⟨rfl, fun e => by cases e⟩ h
-- PlaceNets$Net.isPlain.()Z, from 0
set_option maxRecDepth 20000 in
theorem bk111_0 {d b : Nat} {Q : Option Value → mMem → Prop} {m : mMem} {x0 : Nat} {x1 : Option Value} (hT : mWT m) (hOx0 : m.1 x0 = some (.inr 2) ∧ x0 ≠ 0)
    (h : mEs d 111 b g111 (2, [some (.ref x0), some (.int 0)], [], m) Q) :
    mEs d 111 b g111 (0, [some (.ref x0), x1], [], m) Q := by
  refine e_iconst (pc' := 1) (v := 0) (dAt D111 0 rfl) rfl (by decide) ?_
  refine e_istore_n (pc' := 2) (dAt D111 1 rfl) rfl (Nat.le_of_ble_eq_true rfl) rfl ?_
  exact h
-- PlaceNets$Net.isPlain.()Z, from 2
set_option maxRecDepth 20000 in
theorem bk111_2 {d b : Nat} {Q : Option Value → mMem → Prop} {m : mMem} {x0 : Nat} {x1 : Int32} (hT : mWT m) (hOx0 : m.1 x0 = some (.inr 2) ∧ x0 ≠ 0)
    (h : (((((iF m x0 1) * 10) ≤ x1) → (Q (some (.int 1)) m)) ∧ (¬ (((iF m x0 1) * 10) ≤ x1) → ((mIn x1 110 = true) ∧ (((1 < (m.2.2.1 (64 * x0 + 2) x1.toNatClampNeg)) → (Q (some (.int 0)) m)) ∧ (¬ (1 < (m.2.2.1 (64 * x0 + 2) x1.toNatClampNeg)) → ((mIn x1 110 = true) ∧ ((((m.2.2.1 (64 * x0 + 3) x1.toNatClampNeg) ≤ 1) → (∀ (v_1 : Int32), v_1 = (x1 + 1) → mEs d 111 b g111 (2, [some (.ref x0), some (.int v_1)], [], m) Q)) ∧ (¬ ((m.2.2.1 (64 * x0 + 3) x1.toNatClampNeg) ≤ 1) → (Q (some (.int 0)) m)))))))))) :
    mEs d 111 b g111 (2, [some (.ref x0), some (.int x1)], [], m) Q := by
  refine e_iload_n (pc' := 3) (dAt D111 2 rfl) rfl rfl ?_
  refine e_aload_n (pc' := 4) (dAt D111 3 rfl) rfl rfl ?_
  refine e_getfield (pc' := 7) (dAt D111 4 rfl) rfl rfl hOx0 (hT.int hOx0 1 (by decide)) ?_
  refine e_bipush (pc' := 9) (v := 10) (dAt D111 5 rfl) rfl (by decide) ?_
  refine e_imul (pc' := 10) (dAt D111 6 rfl) rfl ?_
  refine e_icmp_ge (t := 41) (pc' := 13) (dAt D111 7 rfl) ⟨by decide, by decide⟩ rfl (fun c => ?_) (fun c => ?_)
  · replace h := h.1 c
    refine e_iconst (pc' := 42) (v := 1) (dAt D111 24 rfl) rfl (by decide) ?_
    exact e_ireturn (dAt D111 25 rfl) rfl ⟨rfl, fun e => by cases e⟩ h
  · replace h := h.2 c
    refine e_aload_n (pc' := 14) (dAt D111 8 rfl) rfl rfl ?_
    refine e_getfield (pc' := 17) (dAt D111 9 rfl) rfl rfl hOx0 (hT.own hOx0 1 rfl) ?_
    refine e_iload_n (pc' := 18) (dAt D111 10 rfl) rfl rfl ?_
    obtain ⟨f1, h⟩ := h
    refine e_iaload (pc' := 19) (dAt D111 11 rfl) rfl (hT.arr hOx0 1 rfl (by decide)).1 (Or.inl (hT.arr hOx0 1 rfl (by decide)).2) f1 rfl ?_
    refine e_iconst (pc' := 20) (v := 1) (dAt D111 12 rfl) rfl (by decide) ?_
    refine e_icmp_gt (t := 33) (pc' := 23) (dAt D111 13 rfl) ⟨by decide, by decide⟩ rfl (fun c => ?_) (fun c => ?_)
    · replace h := h.1 c
      refine e_iconst (pc' := 34) (v := 0) (dAt D111 20 rfl) rfl (by decide) ?_
      exact e_ireturn (dAt D111 21 rfl) rfl ⟨rfl, fun e => by cases e⟩ h
    · replace h := h.2 c
      refine e_aload_n (pc' := 24) (dAt D111 14 rfl) rfl rfl ?_
      refine e_getfield (pc' := 27) (dAt D111 15 rfl) rfl rfl hOx0 (hT.own hOx0 2 rfl) ?_
      refine e_iload_n (pc' := 28) (dAt D111 16 rfl) rfl rfl ?_
      obtain ⟨f1, h⟩ := h
      refine e_iaload (pc' := 29) (dAt D111 17 rfl) rfl (hT.arr hOx0 2 rfl (by decide)).1 (Or.inl (hT.arr hOx0 2 rfl (by decide)).2) f1 rfl ?_
      refine e_iconst (pc' := 30) (v := 1) (dAt D111 18 rfl) rfl (by decide) ?_
      refine e_icmp_le (t := 35) (pc' := 33) (dAt D111 19 rfl) ⟨by decide, by decide⟩ rfl (fun c => ?_) (fun c => ?_)
      · replace h := h.1 c
        replace h := h _ rfl
        refine e_iinc (pc' := 38) (dAt D111 22 rfl) rfl rfl (Nat.le_of_ble_eq_true rfl) (congrArg (_ + ·) (show Int32.ofInt (1) = (1 : Int32) by decide)) rfl ?_
        refine e_goto (t := 2) (dAt D111 23 rfl) ⟨by decide, by decide⟩ ?_
        exact h
      · replace h := h.2 c
        refine e_iconst (pc' := 34) (v := 0) (dAt D111 20 rfl) rfl (by decide) ?_
        exact e_ireturn (dAt D111 21 rfl) rfl ⟨rfl, fun e => by cases e⟩ h
-- PlaceNets$Net.isPure.()Z, from 0
set_option maxRecDepth 20000 in
theorem bk112_0 {d b : Nat} {Q : Option Value → mMem → Prop} {m : mMem} {x0 : Nat} {x1 : Option Value} (hT : mWT m) (hOx0 : m.1 x0 = some (.inr 2) ∧ x0 ≠ 0)
    (h : mEs d 112 b g112 (2, [some (.ref x0), some (.int 0)], [], m) Q) :
    mEs d 112 b g112 (0, [some (.ref x0), x1], [], m) Q := by
  refine e_iconst (pc' := 1) (v := 0) (dAt D112 0 rfl) rfl (by decide) ?_
  refine e_istore_n (pc' := 2) (dAt D112 1 rfl) rfl (Nat.le_of_ble_eq_true rfl) rfl ?_
  exact h
-- PlaceNets$Net.isPure.()Z, from 2
set_option maxRecDepth 20000 in
theorem bk112_2 {d b : Nat} {Q : Option Value → mMem → Prop} {m : mMem} {x0 : Nat} {x1 : Int32} (hT : mWT m) (hOx0 : m.1 x0 = some (.inr 2) ∧ x0 ≠ 0)
    (h : ((((iF m x0 1) ≤ x1) → (Q (some (.int 1)) m)) ∧ (¬ ((iF m x0 1) ≤ x1) → (mEv d 100 [.ref x0, .int x1] m (fun r m' => mEs d 112 b g112 (15, [some (.ref x0), some (.int x1)], r.toList ++ [], m') Q))))) :
    mEs d 112 b g112 (2, [some (.ref x0), some (.int x1)], [], m) Q := by
  refine e_iload_n (pc' := 3) (dAt D112 2 rfl) rfl rfl ?_
  refine e_aload_n (pc' := 4) (dAt D112 3 rfl) rfl rfl ?_
  refine e_getfield (pc' := 7) (dAt D112 4 rfl) rfl rfl hOx0 (hT.int hOx0 1 (by decide)) ?_
  refine e_icmp_ge (t := 32) (pc' := 10) (dAt D112 5 rfl) ⟨by decide, by decide⟩ rfl (fun c => ?_) (fun c => ?_)
  · replace h := h.1 c
    refine e_iconst (pc' := 33) (v := 1) (dAt D112 18 rfl) rfl (by decide) ?_
    exact e_ireturn (dAt D112 19 rfl) rfl ⟨rfl, fun e => by cases e⟩ h
  · replace h := h.2 c
    refine e_aload_n (pc' := 11) (dAt D112 6 rfl) rfl rfl ?_
    refine e_iload_n (pc' := 12) (dAt D112 7 rfl) rfl rfl ?_
    exact e_call2 h (dAt D112 8 rfl) (hi0 rfl) rfl G100 (by decide) rfl (Nat.le_of_ble_eq_true rfl) (kV hOx0 rfl rfl) rfl rfl
-- PlaceNets$Net.isPure.()Z, from 15
set_option maxRecDepth 20000 in
theorem bk112_15 {d b : Nat} {Q : Option Value → mMem → Prop} {m : mMem} {x0 : Nat} {x1 : Int32} {y0 : Int32} (hT : mWT m) (hOx0 : m.1 x0 = some (.inr 2) ∧ x0 ≠ 0)
    (h : mEv d 102 [.ref x0, .int x1] m (fun r m' => mEs d 112 b g112 (20, [some (.ref x0), some (.int x1)], r.toList ++ [.int y0], m') Q)) :
    mEs d 112 b g112 (15, [some (.ref x0), some (.int x1)], [.int y0], m) Q := by
  refine e_aload_n (pc' := 16) (dAt D112 9 rfl) rfl rfl ?_
  refine e_iload_n (pc' := 17) (dAt D112 10 rfl) rfl rfl ?_
  exact e_call2 h (dAt D112 11 rfl) (hi0 rfl) rfl G102 (by decide) rfl (Nat.le_of_ble_eq_true rfl) (kV hOx0 rfl rfl) rfl rfl
-- PlaceNets$Net.isPure.()Z, from 20
set_option maxRecDepth 20000 in
theorem bk112_20 {d b : Nat} {Q : Option Value → mMem → Prop} {m : mMem} {x0 : Nat} {x1 : Int32} {y0 : Int32} {y1 : Int32} (hT : mWT m) (hOx0 : m.1 x0 = some (.inr 2) ∧ x0 ≠ 0)
    (h : ((((y0 &&& y1) = 0) → (∀ (v_1 : Int32), v_1 = (x1 + 1) → mEs d 112 b g112 (2, [some (.ref x0), some (.int v_1)], [], m) Q)) ∧ (¬ ((y0 &&& y1) = 0) → (Q (some (.int 0)) m)))) :
    mEs d 112 b g112 (20, [some (.ref x0), some (.int x1)], [.int y1, .int y0], m) Q := by
  refine e_iand (pc' := 21) (dAt D112 12 rfl) rfl ?_
  refine e_if_eq (t := 26) (pc' := 24) (dAt D112 13 rfl) ⟨by decide, by decide⟩ rfl (fun c => ?_) (fun c => ?_)
  · replace h := h.1 c
    replace h := h _ rfl
    refine e_iinc (pc' := 29) (dAt D112 16 rfl) rfl rfl (Nat.le_of_ble_eq_true rfl) (congrArg (_ + ·) (show Int32.ofInt (1) = (1 : Int32) by decide)) rfl ?_
    refine e_goto (t := 2) (dAt D112 17 rfl) ⟨by decide, by decide⟩ ?_
    exact h
  · replace h := h.2 c
    refine e_iconst (pc' := 25) (v := 0) (dAt D112 14 rfl) rfl (by decide) ?_
    exact e_ireturn (dAt D112 15 rfl) rfl ⟨rfl, fun e => by cases e⟩ h
-- PlaceNets$Net.isMachine.()Z, from 0
set_option maxRecDepth 20000 in
theorem bk113_0 {d b : Nat} {Q : Option Value → mMem → Prop} {m : mMem} {x0 : Nat} {x1 : Option Value} (hT : mWT m) (hOx0 : m.1 x0 = some (.inr 2) ∧ x0 ≠ 0)
    (h : mEs d 113 b g113 (2, [some (.ref x0), some (.int 0)], [], m) Q) :
    mEs d 113 b g113 (0, [some (.ref x0), x1], [], m) Q := by
  refine e_iconst (pc' := 1) (v := 0) (dAt D113 0 rfl) rfl (by decide) ?_
  refine e_istore_n (pc' := 2) (dAt D113 1 rfl) rfl (Nat.le_of_ble_eq_true rfl) rfl ?_
  exact h
-- PlaceNets$Net.isMachine.()Z, from 2
set_option maxRecDepth 20000 in
theorem bk113_2 {d b : Nat} {Q : Option Value → mMem → Prop} {m : mMem} {x0 : Nat} {x1 : Int32} (hT : mWT m) (hOx0 : m.1 x0 = some (.inr 2) ∧ x0 ≠ 0)
    (h : ((((iF m x0 1) ≤ x1) → (Q (some (.int 1)) m)) ∧ (¬ ((iF m x0 1) ≤ x1) → (mEv d 114 [.ref x0, .ref (64 * x0 + 2), .int x1] m (fun r m' => mEs d 113 b g113 (19, [some (.ref x0), some (.int x1)], r.toList ++ [], m') Q))))) :
    mEs d 113 b g113 (2, [some (.ref x0), some (.int x1)], [], m) Q := by
  refine e_iload_n (pc' := 3) (dAt D113 2 rfl) rfl rfl ?_
  refine e_aload_n (pc' := 4) (dAt D113 3 rfl) rfl rfl ?_
  refine e_getfield (pc' := 7) (dAt D113 4 rfl) rfl rfl hOx0 (hT.int hOx0 1 (by decide)) ?_
  refine e_icmp_ge (t := 44) (pc' := 10) (dAt D113 5 rfl) ⟨by decide, by decide⟩ rfl (fun c => ?_) (fun c => ?_)
  · replace h := h.1 c
    refine e_iconst (pc' := 45) (v := 1) (dAt D113 24 rfl) rfl (by decide) ?_
    exact e_ireturn (dAt D113 25 rfl) rfl ⟨rfl, fun e => by cases e⟩ h
  · replace h := h.2 c
    refine e_aload_n (pc' := 11) (dAt D113 6 rfl) rfl rfl ?_
    refine e_aload_n (pc' := 12) (dAt D113 7 rfl) rfl rfl ?_
    refine e_getfield (pc' := 15) (dAt D113 8 rfl) rfl rfl hOx0 (hT.own hOx0 1 rfl) ?_
    refine e_iload_n (pc' := 16) (dAt D113 9 rfl) rfl rfl ?_
    exact e_call2 h (dAt D113 10 rfl) (hi0 rfl) rfl G114 (by decide) rfl (Nat.le_of_ble_eq_true rfl) (kV hOx0 rfl rfl) rfl rfl
-- PlaceNets$Net.isMachine.()Z, from 19
set_option maxRecDepth 20000 in
theorem bk113_19 {d b : Nat} {Q : Option Value → mMem → Prop} {m : mMem} {x0 : Nat} {x1 : Int32} {y0 : Int32} (hT : mWT m) (hOx0 : m.1 x0 = some (.inr 2) ∧ x0 ≠ 0)
    (h : (((¬ y0 = 1) → (Q (some (.int 0)) m)) ∧ (¬ (¬ y0 = 1) → (mEv d 114 [.ref x0, .ref (64 * x0 + 3), .int x1] m (fun r m' => mEs d 113 b g113 (32, [some (.ref x0), some (.int x1)], r.toList ++ [], m') Q))))) :
    mEs d 113 b g113 (19, [some (.ref x0), some (.int x1)], [.int y0], m) Q := by
  refine e_iconst (pc' := 20) (v := 1) (dAt D113 11 rfl) rfl (by decide) ?_
  refine e_icmp_ne (t := 36) (pc' := 23) (dAt D113 12 rfl) ⟨by decide, by decide⟩ rfl (fun c => ?_) (fun c => ?_)
  · replace h := h.1 c
    refine e_iconst (pc' := 37) (v := 0) (dAt D113 20 rfl) rfl (by decide) ?_
    exact e_ireturn (dAt D113 21 rfl) rfl ⟨rfl, fun e => by cases e⟩ h
  · replace h := h.2 c
    refine e_aload_n (pc' := 24) (dAt D113 13 rfl) rfl rfl ?_
    refine e_aload_n (pc' := 25) (dAt D113 14 rfl) rfl rfl ?_
    refine e_getfield (pc' := 28) (dAt D113 15 rfl) rfl rfl hOx0 (hT.own hOx0 2 rfl) ?_
    refine e_iload_n (pc' := 29) (dAt D113 16 rfl) rfl rfl ?_
    exact e_call2 h (dAt D113 17 rfl) (hi0 rfl) rfl G114 (by decide) rfl (Nat.le_of_ble_eq_true rfl) (kV hOx0 rfl rfl) rfl rfl
-- PlaceNets$Net.isMachine.()Z, from 32
set_option maxRecDepth 20000 in
theorem bk113_32 {d b : Nat} {Q : Option Value → mMem → Prop} {m : mMem} {x0 : Nat} {x1 : Int32} {y0 : Int32} (hT : mWT m) (hOx0 : m.1 x0 = some (.inr 2) ∧ x0 ≠ 0)
    (h : (((y0 = 1) → (∀ (v_1 : Int32), v_1 = (x1 + 1) → mEs d 113 b g113 (2, [some (.ref x0), some (.int v_1)], [], m) Q)) ∧ (¬ (y0 = 1) → (Q (some (.int 0)) m)))) :
    mEs d 113 b g113 (32, [some (.ref x0), some (.int x1)], [.int y0], m) Q := by
  refine e_iconst (pc' := 33) (v := 1) (dAt D113 18 rfl) rfl (by decide) ?_
  refine e_icmp_eq (t := 38) (pc' := 36) (dAt D113 19 rfl) ⟨by decide, by decide⟩ rfl (fun c => ?_) (fun c => ?_)
  · replace h := h.1 c
    replace h := h _ rfl
    refine e_iinc (pc' := 41) (dAt D113 22 rfl) rfl rfl (Nat.le_of_ble_eq_true rfl) (congrArg (_ + ·) (show Int32.ofInt (1) = (1 : Int32) by decide)) rfl ?_
    refine e_goto (t := 2) (dAt D113 23 rfl) ⟨by decide, by decide⟩ ?_
    exact h
  · replace h := h.2 c
    refine e_iconst (pc' := 37) (v := 0) (dAt D113 20 rfl) rfl (by decide) ?_
    exact e_ireturn (dAt D113 21 rfl) rfl ⟨rfl, fun e => by cases e⟩ h
-- PlaceNets$Net.sumOf.([II)I, from 0
set_option maxRecDepth 20000 in
theorem bk114_0 {d b : Nat} {Q : Option Value → mMem → Prop} {m : mMem} {x0 : Nat} {x1 : Nat} {lx1 : Nat} {x2 : Int32} {x3 : Option Value} {x4 : Option Value} (hT : mWT m) (hOx0 : m.1 x0 = some (.inr 2) ∧ x0 ≠ 0) (hAx1 : m.1 x1 = some (.inl (.int, lx1)) ∧ x1 ≠ 0)
    (h : mEs d 114 b g114 (5, [some (.ref x0), some (.ref x1), some (.int x2), some (.int 0), some (.int 0)], [], m) Q) :
    mEs d 114 b g114 (0, [some (.ref x0), some (.ref x1), some (.int x2), x3, x4], [], m) Q := by
  refine e_iconst (pc' := 1) (v := 0) (dAt D114 0 rfl) rfl (by decide) ?_
  refine e_istore_n (pc' := 2) (dAt D114 1 rfl) rfl (Nat.le_of_ble_eq_true rfl) rfl ?_
  refine e_iconst (pc' := 3) (v := 0) (dAt D114 2 rfl) rfl (by decide) ?_
  refine e_istore (pc' := 5) (dAt D114 3 rfl) rfl (Nat.le_of_ble_eq_true rfl) rfl ?_
  exact h
-- PlaceNets$Net.sumOf.([II)I, from 5
set_option maxRecDepth 20000 in
theorem bk114_5 {d b : Nat} {Q : Option Value → mMem → Prop} {m : mMem} {x0 : Nat} {x1 : Nat} {lx1 : Nat} {x2 : Int32} {x3 : Int32} {x4 : Int32} (hT : mWT m) (hOx0 : m.1 x0 = some (.inr 2) ∧ x0 ≠ 0) (hAx1 : m.1 x1 = some (.inl (.int, lx1)) ∧ x1 ≠ 0)
    (h : ((((iF m x0 0) ≤ x4) → (Q (some (.int x3)) m)) ∧ (¬ ((iF m x0 0) ≤ x4) → ((mIn ((x2 * 10) + x4) lx1 = true) ∧ (∀ (v_1 : Int32), v_1 = (x3 + (m.2.2.1 x1 ((x2 * 10) + x4).toNatClampNeg)) → ∀ (v_2 : Int32), v_2 = (x4 + 1) → mEs d 114 b g114 (5, [some (.ref x0), some (.ref x1), some (.int x2), some (.int v_1), some (.int v_2)], [], m) Q))))) :
    mEs d 114 b g114 (5, [some (.ref x0), some (.ref x1), some (.int x2), some (.int x3), some (.int x4)], [], m) Q := by
  refine e_iload (pc' := 7) (dAt D114 4 rfl) rfl rfl ?_
  refine e_aload_n (pc' := 8) (dAt D114 5 rfl) rfl rfl ?_
  refine e_getfield (pc' := 11) (dAt D114 6 rfl) rfl rfl hOx0 (hT.int hOx0 0 (by decide)) ?_
  refine e_icmp_ge (t := 32) (pc' := 14) (dAt D114 7 rfl) ⟨by decide, by decide⟩ rfl (fun c => ?_) (fun c => ?_)
  · replace h := h.1 c
    refine e_iload_n (pc' := 33) (dAt D114 20 rfl) rfl rfl ?_
    exact e_ireturn (dAt D114 21 rfl) rfl ⟨rfl, fun e => by cases e⟩ h
  · replace h := h.2 c
    refine e_iload_n (pc' := 15) (dAt D114 8 rfl) rfl rfl ?_
    refine e_aload_n (pc' := 16) (dAt D114 9 rfl) rfl rfl ?_
    refine e_iload_n (pc' := 17) (dAt D114 10 rfl) rfl rfl ?_
    refine e_bipush (pc' := 19) (v := 10) (dAt D114 11 rfl) rfl (by decide) ?_
    refine e_imul (pc' := 20) (dAt D114 12 rfl) rfl ?_
    refine e_iload (pc' := 22) (dAt D114 13 rfl) rfl rfl ?_
    refine e_iadd (pc' := 23) (dAt D114 14 rfl) rfl ?_
    obtain ⟨f1, h⟩ := h
    refine e_iaload (pc' := 24) (dAt D114 15 rfl) rfl hAx1.1 (Or.inl hAx1.2) f1 rfl ?_
    refine e_iadd (pc' := 25) (dAt D114 16 rfl) rfl ?_
    replace h := h _ rfl
    refine e_istore_n (pc' := 26) (dAt D114 17 rfl) rfl (Nat.le_of_ble_eq_true rfl) rfl ?_
    replace h := h _ rfl
    refine e_iinc (pc' := 29) (dAt D114 18 rfl) rfl rfl (Nat.le_of_ble_eq_true rfl) (congrArg (_ + ·) (show Int32.ofInt (1) = (1 : Int32) by decide)) rfl ?_
    refine e_goto (t := 5) (dAt D114 19 rfl) ⟨by decide, by decide⟩ ?_
    exact h
-- PlaceNets$Net.isCircuit.()Z, from 0
set_option maxRecDepth 20000 in
theorem bk115_0 {d b : Nat} {Q : Option Value → mMem → Prop} {m : mMem} {x0 : Nat} {x1 : Option Value} {x2 : Option Value} {x3 : Option Value} (hT : mWT m) (hOx0 : m.1 x0 = some (.inr 2) ∧ x0 ≠ 0)
    (h : mEs d 115 b g115 (6, [some (.ref x0), some (.int 0), some (.int 0), some (.int 0)], [], m) Q) :
    mEs d 115 b g115 (0, [some (.ref x0), x1, x2, x3], [], m) Q := by
  refine e_iconst (pc' := 1) (v := 0) (dAt D115 0 rfl) rfl (by decide) ?_
  refine e_istore_n (pc' := 2) (dAt D115 1 rfl) rfl (Nat.le_of_ble_eq_true rfl) rfl ?_
  refine e_iconst (pc' := 3) (v := 0) (dAt D115 2 rfl) rfl (by decide) ?_
  refine e_istore_n (pc' := 4) (dAt D115 3 rfl) rfl (Nat.le_of_ble_eq_true rfl) rfl ?_
  refine e_iconst (pc' := 5) (v := 0) (dAt D115 4 rfl) rfl (by decide) ?_
  refine e_istore_n (pc' := 6) (dAt D115 5 rfl) rfl (Nat.le_of_ble_eq_true rfl) rfl ?_
  exact h
-- PlaceNets$Net.isCircuit.()Z, from 6
set_option maxRecDepth 20000 in
theorem bk115_6 {d b : Nat} {Q : Option Value → mMem → Prop} {m : mMem} {x0 : Nat} {x1 : Int32} {x2 : Int32} {x3 : Int32} (hT : mWT m) (hOx0 : m.1 x0 = some (.inr 2) ∧ x0 ≠ 0)
    (h : ((((iF m x0 1) ≤ x3) → (Q (some (.int 1)) m)) ∧ (¬ ((iF m x0 1) ≤ x3) → (mEv d 100 [.ref x0, .int x3] m (fun r m' => mEs d 115 b g115 (20, [some (.ref x0), some (.int x1), some (.int x2), some (.int x3)], r.toList ++ [.int x1], m') Q))))) :
    mEs d 115 b g115 (6, [some (.ref x0), some (.int x1), some (.int x2), some (.int x3)], [], m) Q := by
  refine e_iload_n (pc' := 7) (dAt D115 6 rfl) rfl rfl ?_
  refine e_aload_n (pc' := 8) (dAt D115 7 rfl) rfl rfl ?_
  refine e_getfield (pc' := 11) (dAt D115 8 rfl) rfl rfl hOx0 (hT.int hOx0 1 (by decide)) ?_
  refine e_icmp_ge (t := 58) (pc' := 14) (dAt D115 9 rfl) ⟨by decide, by decide⟩ rfl (fun c => ?_) (fun c => ?_)
  · replace h := h.1 c
    refine e_iconst (pc' := 59) (v := 1) (dAt D115 38 rfl) rfl (by decide) ?_
    exact e_ireturn (dAt D115 39 rfl) rfl ⟨rfl, fun e => by cases e⟩ h
  · replace h := h.2 c
    refine e_iload_n (pc' := 15) (dAt D115 10 rfl) rfl rfl ?_
    refine e_aload_n (pc' := 16) (dAt D115 11 rfl) rfl rfl ?_
    refine e_iload_n (pc' := 17) (dAt D115 12 rfl) rfl rfl ?_
    exact e_call2 h (dAt D115 13 rfl) (hi0 rfl) rfl G100 (by decide) rfl (Nat.le_of_ble_eq_true rfl) (kV hOx0 rfl rfl) rfl rfl
-- PlaceNets$Net.isCircuit.()Z, from 20
set_option maxRecDepth 20000 in
theorem bk115_20 {d b : Nat} {Q : Option Value → mMem → Prop} {m : mMem} {x0 : Nat} {x1 : Int32} {x2 : Int32} {x3 : Int32} {y0 : Int32} {y1 : Int32} (hT : mWT m) (hOx0 : m.1 x0 = some (.inr 2) ∧ x0 ≠ 0)
    (h : (((¬ (y0 &&& y1) = 0) → (Q (some (.int 0)) m)) ∧ (¬ (¬ (y0 &&& y1) = 0) → (mEv d 102 [.ref x0, .int x3] m (fun r m' => mEs d 115 b g115 (30, [some (.ref x0), some (.int x1), some (.int x2), some (.int x3)], r.toList ++ [.int x2], m') Q))))) :
    mEs d 115 b g115 (20, [some (.ref x0), some (.int x1), some (.int x2), some (.int x3)], [.int y1, .int y0], m) Q := by
  refine e_iand (pc' := 21) (dAt D115 14 rfl) rfl ?_
  refine e_if_ne (t := 34) (pc' := 24) (dAt D115 15 rfl) ⟨by decide, by decide⟩ rfl (fun c => ?_) (fun c => ?_)
  · replace h := h.1 c
    refine e_iconst (pc' := 35) (v := 0) (dAt D115 22 rfl) rfl (by decide) ?_
    exact e_ireturn (dAt D115 23 rfl) rfl ⟨rfl, fun e => by cases e⟩ h
  · replace h := h.2 c
    refine e_iload_n (pc' := 25) (dAt D115 16 rfl) rfl rfl ?_
    refine e_aload_n (pc' := 26) (dAt D115 17 rfl) rfl rfl ?_
    refine e_iload_n (pc' := 27) (dAt D115 18 rfl) rfl rfl ?_
    exact e_call2 h (dAt D115 19 rfl) (hi0 rfl) rfl G102 (by decide) rfl (Nat.le_of_ble_eq_true rfl) (kV hOx0 rfl rfl) rfl rfl
-- PlaceNets$Net.isCircuit.()Z, from 30
set_option maxRecDepth 20000 in
theorem bk115_30 {d b : Nat} {Q : Option Value → mMem → Prop} {m : mMem} {x0 : Nat} {x1 : Int32} {x2 : Int32} {x3 : Int32} {y0 : Int32} {y1 : Int32} (hT : mWT m) (hOx0 : m.1 x0 = some (.inr 2) ∧ x0 ≠ 0)
    (h : ((((y0 &&& y1) = 0) → (mEv d 100 [.ref x0, .int x3] m (fun r m' => mEs d 115 b g115 (42, [some (.ref x0), some (.int x1), some (.int x2), some (.int x3)], r.toList ++ [.int x1], m') Q))) ∧ (¬ ((y0 &&& y1) = 0) → (Q (some (.int 0)) m)))) :
    mEs d 115 b g115 (30, [some (.ref x0), some (.int x1), some (.int x2), some (.int x3)], [.int y1, .int y0], m) Q := by
  refine e_iand (pc' := 31) (dAt D115 20 rfl) rfl ?_
  refine e_if_eq (t := 36) (pc' := 34) (dAt D115 21 rfl) ⟨by decide, by decide⟩ rfl (fun c => ?_) (fun c => ?_)
  · replace h := h.1 c
    refine e_iload_n (pc' := 37) (dAt D115 24 rfl) rfl rfl ?_
    refine e_aload_n (pc' := 38) (dAt D115 25 rfl) rfl rfl ?_
    refine e_iload_n (pc' := 39) (dAt D115 26 rfl) rfl rfl ?_
    exact e_call2 h (dAt D115 27 rfl) (hi0 rfl) rfl G100 (by decide) rfl (Nat.le_of_ble_eq_true rfl) (kV hOx0 rfl rfl) rfl rfl
  · replace h := h.2 c
    refine e_iconst (pc' := 35) (v := 0) (dAt D115 22 rfl) rfl (by decide) ?_
    exact e_ireturn (dAt D115 23 rfl) rfl ⟨rfl, fun e => by cases e⟩ h
-- PlaceNets$Net.isCircuit.()Z, from 42
set_option maxRecDepth 20000 in
theorem bk115_42 {d b : Nat} {Q : Option Value → mMem → Prop} {m : mMem} {x0 : Nat} {x1 : Int32} {x2 : Int32} {x3 : Int32} {y0 : Int32} {y1 : Int32} (hT : mWT m) (hOx0 : m.1 x0 = some (.inr 2) ∧ x0 ≠ 0)
    (h : ∀ (v_1 : Int32), v_1 = (y0 ||| y1) → mEv d 102 [.ref x0, .int x3] m (fun r m' => mEs d 115 b g115 (50, [some (.ref x0), some (.int v_1), some (.int x2), some (.int x3)], r.toList ++ [.int x2], m') Q)) :
    mEs d 115 b g115 (42, [some (.ref x0), some (.int x1), some (.int x2), some (.int x3)], [.int y1, .int y0], m) Q := by
  refine e_ior (pc' := 43) (dAt D115 28 rfl) rfl ?_
  replace h := h _ rfl
  refine e_istore_n (pc' := 44) (dAt D115 29 rfl) rfl (Nat.le_of_ble_eq_true rfl) rfl ?_
  refine e_iload_n (pc' := 45) (dAt D115 30 rfl) rfl rfl ?_
  refine e_aload_n (pc' := 46) (dAt D115 31 rfl) rfl rfl ?_
  refine e_iload_n (pc' := 47) (dAt D115 32 rfl) rfl rfl ?_
  exact e_call2 h (dAt D115 33 rfl) (hi0 rfl) rfl G102 (by decide) rfl (Nat.le_of_ble_eq_true rfl) (kV hOx0 rfl rfl) rfl rfl
-- PlaceNets$Net.isCircuit.()Z, from 50
set_option maxRecDepth 20000 in
theorem bk115_50 {d b : Nat} {Q : Option Value → mMem → Prop} {m : mMem} {x0 : Nat} {x1 : Int32} {x2 : Int32} {x3 : Int32} {y0 : Int32} {y1 : Int32} (hT : mWT m) (hOx0 : m.1 x0 = some (.inr 2) ∧ x0 ≠ 0)
    (h : ∀ (v_1 : Int32), v_1 = (y0 ||| y1) → ∀ (v_2 : Int32), v_2 = (x3 + 1) → mEs d 115 b g115 (6, [some (.ref x0), some (.int x1), some (.int v_1), some (.int v_2)], [], m) Q) :
    mEs d 115 b g115 (50, [some (.ref x0), some (.int x1), some (.int x2), some (.int x3)], [.int y1, .int y0], m) Q := by
  refine e_ior (pc' := 51) (dAt D115 34 rfl) rfl ?_
  replace h := h _ rfl
  refine e_istore_n (pc' := 52) (dAt D115 35 rfl) rfl (Nat.le_of_ble_eq_true rfl) rfl ?_
  replace h := h _ rfl
  refine e_iinc (pc' := 55) (dAt D115 36 rfl) rfl rfl (Nat.le_of_ble_eq_true rfl) (congrArg (_ + ·) (show Int32.ofInt (1) = (1 : Int32) by decide)) rfl ?_
  refine e_goto (t := 6) (dAt D115 37 rfl) ⟨by decide, by decide⟩ ?_
  exact h
-- PlaceNets$Net.isFree.()Z, from 0
set_option maxRecDepth 20000 in
theorem bk116_0 {d b : Nat} {Q : Option Value → mMem → Prop} {m : mMem} {x0 : Nat} {x1 : Option Value} {x2 : Option Value} {x3 : Option Value} {x4 : Option Value} (hT : mWT m) (hOx0 : m.1 x0 = some (.inr 2) ∧ x0 ≠ 0)
    (h : mEs d 116 b g116 (2, [some (.ref x0), some (.int 0), x2, x3, x4], [], m) Q) :
    mEs d 116 b g116 (0, [some (.ref x0), x1, x2, x3, x4], [], m) Q := by
  refine e_iconst (pc' := 1) (v := 0) (dAt D116 0 rfl) rfl (by decide) ?_
  refine e_istore_n (pc' := 2) (dAt D116 1 rfl) rfl (Nat.le_of_ble_eq_true rfl) rfl ?_
  exact h
-- PlaceNets$Net.isFree.()Z, from 2
set_option maxRecDepth 20000 in
theorem bk116_2 {d b : Nat} {Q : Option Value → mMem → Prop} {m : mMem} {x0 : Nat} {x1 : Int32} {x2 : Option Value} {x3 : Option Value} {x4 : Option Value} (hT : mWT m) (hOx0 : m.1 x0 = some (.inr 2) ∧ x0 ≠ 0)
    (h : ((((iF m x0 1) ≤ x1) → (Q (some (.int 1)) m)) ∧ (¬ ((iF m x0 1) ≤ x1) → (mEs d 116 b g116 (12, [some (.ref x0), some (.int x1), some (.int 0), x3, x4], [], m) Q)))) :
    mEs d 116 b g116 (2, [some (.ref x0), some (.int x1), x2, x3, x4], [], m) Q := by
  refine e_iload_n (pc' := 3) (dAt D116 2 rfl) rfl rfl ?_
  refine e_aload_n (pc' := 4) (dAt D116 3 rfl) rfl rfl ?_
  refine e_getfield (pc' := 7) (dAt D116 4 rfl) rfl rfl hOx0 (hT.int hOx0 1 (by decide)) ?_
  refine e_icmp_ge (t := 57) (pc' := 10) (dAt D116 5 rfl) ⟨by decide, by decide⟩ rfl (fun c => ?_) (fun c => ?_)
  · replace h := h.1 c
    refine e_iconst (pc' := 58) (v := 1) (dAt D116 32 rfl) rfl (by decide) ?_
    exact e_ireturn (dAt D116 33 rfl) rfl ⟨rfl, fun e => by cases e⟩ h
  · replace h := h.2 c
    refine e_iconst (pc' := 11) (v := 0) (dAt D116 6 rfl) rfl (by decide) ?_
    refine e_istore_n (pc' := 12) (dAt D116 7 rfl) rfl (Nat.le_of_ble_eq_true rfl) rfl ?_
    exact h
-- PlaceNets$Net.isFree.()Z, from 12
set_option maxRecDepth 20000 in
theorem bk116_12 {d b : Nat} {Q : Option Value → mMem → Prop} {m : mMem} {x0 : Nat} {x1 : Int32} {x2 : Int32} {x3 : Option Value} {x4 : Option Value} (hT : mWT m) (hOx0 : m.1 x0 = some (.inr 2) ∧ x0 ≠ 0)
    (h : (((x1 ≤ x2) → (∀ (v_1 : Int32), v_1 = (x1 + 1) → mEs d 116 b g116 (2, [some (.ref x0), some (.int v_1), some (.int x2), x3, x4], [], m) Q)) ∧ (¬ (x1 ≤ x2) → (mEv d 100 [.ref x0, .int x1] m (fun r m' => mEs d 116 b g116 (22, [some (.ref x0), some (.int x1), some (.int x2), x3, x4], r.toList ++ [], m') Q))))) :
    mEs d 116 b g116 (12, [some (.ref x0), some (.int x1), some (.int x2), x3, x4], [], m) Q := by
  refine e_iload_n (pc' := 13) (dAt D116 8 rfl) rfl rfl ?_
  refine e_iload_n (pc' := 14) (dAt D116 9 rfl) rfl rfl ?_
  refine e_icmp_ge (t := 51) (pc' := 17) (dAt D116 10 rfl) ⟨by decide, by decide⟩ rfl (fun c => ?_) (fun c => ?_)
  · replace h := h.1 c
    replace h := h _ rfl
    refine e_iinc (pc' := 54) (dAt D116 30 rfl) rfl rfl (Nat.le_of_ble_eq_true rfl) (congrArg (_ + ·) (show Int32.ofInt (1) = (1 : Int32) by decide)) rfl ?_
    refine e_goto (t := 2) (dAt D116 31 rfl) ⟨by decide, by decide⟩ ?_
    exact h
  · replace h := h.2 c
    refine e_aload_n (pc' := 18) (dAt D116 11 rfl) rfl rfl ?_
    refine e_iload_n (pc' := 19) (dAt D116 12 rfl) rfl rfl ?_
    exact e_call2 h (dAt D116 13 rfl) (hi0 rfl) rfl G100 (by decide) rfl (Nat.le_of_ble_eq_true rfl) (kV hOx0 rfl rfl) rfl rfl
-- PlaceNets$Net.isFree.()Z, from 22
set_option maxRecDepth 20000 in
theorem bk116_22 {d b : Nat} {Q : Option Value → mMem → Prop} {m : mMem} {x0 : Nat} {x1 : Int32} {x2 : Int32} {x3 : Option Value} {x4 : Option Value} {y0 : Int32} (hT : mWT m) (hOx0 : m.1 x0 = some (.inr 2) ∧ x0 ≠ 0)
    (h : mEv d 100 [.ref x0, .int x2] m (fun r m' => mEs d 116 b g116 (28, [some (.ref x0), some (.int x1), some (.int x2), some (.int y0), x4], r.toList ++ [], m') Q)) :
    mEs d 116 b g116 (22, [some (.ref x0), some (.int x1), some (.int x2), x3, x4], [.int y0], m) Q := by
  refine e_istore_n (pc' := 23) (dAt D116 14 rfl) rfl (Nat.le_of_ble_eq_true rfl) rfl ?_
  refine e_aload_n (pc' := 24) (dAt D116 15 rfl) rfl rfl ?_
  refine e_iload_n (pc' := 25) (dAt D116 16 rfl) rfl rfl ?_
  exact e_call2 h (dAt D116 17 rfl) (hi0 rfl) rfl G100 (by decide) rfl (Nat.le_of_ble_eq_true rfl) (kV hOx0 rfl rfl) rfl rfl
-- PlaceNets$Net.isFree.()Z, from 28
set_option maxRecDepth 20000 in
theorem bk116_28 {d b : Nat} {Q : Option Value → mMem → Prop} {m : mMem} {x0 : Nat} {x1 : Int32} {x2 : Int32} {x3 : Int32} {x4 : Option Value} {y0 : Int32} (hT : mWT m) (hOx0 : m.1 x0 = some (.inr 2) ∧ x0 ≠ 0)
    (h : ((((x3 &&& y0) = 0) → (∀ (v_1 : Int32), v_1 = (x2 + 1) → mEs d 116 b g116 (12, [some (.ref x0), some (.int x1), some (.int v_1), some (.int x3), some (.int y0)], [], m) Q)) ∧ (¬ ((x3 &&& y0) = 0) → (((x3 = y0) → (∀ (v_2 : Int32), v_2 = (x2 + 1) → mEs d 116 b g116 (12, [some (.ref x0), some (.int x1), some (.int v_2), some (.int x3), some (.int y0)], [], m) Q)) ∧ (¬ (x3 = y0) → (Q (some (.int 0)) m)))))) :
    mEs d 116 b g116 (28, [some (.ref x0), some (.int x1), some (.int x2), some (.int x3), x4], [.int y0], m) Q := by
  refine e_istore (pc' := 30) (dAt D116 18 rfl) rfl (Nat.le_of_ble_eq_true rfl) rfl ?_
  refine e_iload_n (pc' := 31) (dAt D116 19 rfl) rfl rfl ?_
  refine e_iload (pc' := 33) (dAt D116 20 rfl) rfl rfl ?_
  refine e_iand (pc' := 34) (dAt D116 21 rfl) rfl ?_
  refine e_if_eq (t := 45) (pc' := 37) (dAt D116 22 rfl) ⟨by decide, by decide⟩ rfl (fun c => ?_) (fun c => ?_)
  · replace h := h.1 c
    replace h := h _ rfl
    refine e_iinc (pc' := 48) (dAt D116 28 rfl) rfl rfl (Nat.le_of_ble_eq_true rfl) (congrArg (_ + ·) (show Int32.ofInt (1) = (1 : Int32) by decide)) rfl ?_
    refine e_goto (t := 12) (dAt D116 29 rfl) ⟨by decide, by decide⟩ ?_
    exact h
  · replace h := h.2 c
    refine e_iload_n (pc' := 38) (dAt D116 23 rfl) rfl rfl ?_
    refine e_iload (pc' := 40) (dAt D116 24 rfl) rfl rfl ?_
    refine e_icmp_eq (t := 45) (pc' := 43) (dAt D116 25 rfl) ⟨by decide, by decide⟩ rfl (fun c => ?_) (fun c => ?_)
    · replace h := h.1 c
      replace h := h _ rfl
      refine e_iinc (pc' := 48) (dAt D116 28 rfl) rfl rfl (Nat.le_of_ble_eq_true rfl) (congrArg (_ + ·) (show Int32.ofInt (1) = (1 : Int32) by decide)) rfl ?_
      refine e_goto (t := 12) (dAt D116 29 rfl) ⟨by decide, by decide⟩ ?_
      exact h
    · replace h := h.2 c
      refine e_iconst (pc' := 44) (v := 0) (dAt D116 26 rfl) rfl (by decide) ?_
      exact e_ireturn (dAt D116 27 rfl) rfl ⟨rfl, fun e => by cases e⟩ h
-- PlaceNets$Net.takenInAll.(I)I, from 0
set_option maxRecDepth 20000 in
theorem bk125_0 {d b : Nat} {Q : Option Value → mMem → Prop} {m : mMem} {x0 : Nat} {x1 : Int32} (hT : mWT m) (hOx0 : m.1 x0 = some (.inr 2) ∧ x0 ≠ 0)
    (h : mEv d 114 [.ref x0, .ref (64 * x0 + 2), .int x1] m (fun r m' => mEs d 125 b g125 (9, [some (.ref x0), some (.int x1)], r.toList ++ [], m') Q)) :
    mEs d 125 b g125 (0, [some (.ref x0), some (.int x1)], [], m) Q := by
  refine e_aload_n (pc' := 1) (dAt D125 0 rfl) rfl rfl ?_
  refine e_aload_n (pc' := 2) (dAt D125 1 rfl) rfl rfl ?_
  refine e_getfield (pc' := 5) (dAt D125 2 rfl) rfl rfl hOx0 (hT.own hOx0 1 rfl) ?_
  refine e_iload_n (pc' := 6) (dAt D125 3 rfl) rfl rfl ?_
  exact e_call2 h (dAt D125 4 rfl) (hi0 rfl) rfl G114 (by decide) rfl (Nat.le_of_ble_eq_true rfl) (kV hOx0 rfl rfl) rfl rfl
-- PlaceNets$Net.takenInAll.(I)I, from 9
set_option maxRecDepth 20000 in
theorem bk125_9 {d b : Nat} {Q : Option Value → mMem → Prop} {m : mMem} {x0 : Nat} {x1 : Int32} {y0 : Int32} (hT : mWT m) (hOx0 : m.1 x0 = some (.inr 2) ∧ x0 ≠ 0)
    (h : Q (some (.int y0)) m) :
    mEs d 125 b g125 (9, [some (.ref x0), some (.int x1)], [.int y0], m) Q := by
  exact e_ireturn (dAt D125 5 rfl) rfl ⟨rfl, fun e => by cases e⟩ h
