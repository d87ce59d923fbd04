abbrev g5 : mG := (⟨"PlaceNets$Script", "addFour", "(I)I"⟩, prog_6_method_2_code, 3, (some .int), 2, 2, 1, false)
theorem G5 : mGm[5]? = some g5 := rfl
def tb5 : List (Nat × Instr × Nat) := [(0, .aload_n 0, 1), (1, .getfield 15, 3), (4, .iconst (4), 1), (5, .iadd, 1), (6, .sipush (240), 3), (9, .if_icmp .le (5), 3), (12, .iconst (-1), 1), (13, .ireturn, 1), (14, .bipush (24), 2), (16, .istore_n 2, 1), (17, .iload_n 2, 1), (18, .ifCond .lt (36), 3), (21, .aload_n 0, 1), (22, .getfield 9, 3), (25, .aload_n 0, 1), (26, .getfield 15, 3), (29, .iload_n 1, 1), (30, .iload_n 2, 1), (31, .iushr, 1), (32, .sipush (255), 3), (35, .iand, 1), (36, .i2c, 1), (37, .castore, 1), (38, .aload_n 0, 1), (39, .dup, 1), (40, .getfield 15, 3), (43, .iconst (1), 1), (44, .iadd, 1), (45, .putfield 15, 3), (48, .iinc 2 (-8), 3), (51, .goto (-34), 3), (54, .aload_n 0, 1), (55, .getfield 15, 3), (58, .ireturn, 1)]
set_option maxRecDepth 20000 in
theorem D5 : tb5.all (dOk prog_6_method_2_code) = true := by decide +kernel
abbrev g7 : mG := (⟨"PlaceNets$Script", "shorten", "(I)Z"⟩, prog_6_method_3_code, 2, (some .boolean), 2, 2, 1, false)
theorem G7 : mGm[7]? = some g7 := rfl
def tb7 : List (Nat × Instr × Nat) := [(0, .iload_n 1, 1), (1, .ifCond .lt (11), 3), (4, .iload_n 1, 1), (5, .aload_n 0, 1), (6, .getfield 15, 3), (9, .if_icmp .le (5), 3), (12, .iconst (0), 1), (13, .ireturn, 1), (14, .aload_n 0, 1), (15, .iload_n 1, 1), (16, .putfield 15, 3), (19, .iconst (1), 1), (20, .ireturn, 1)]
set_option maxRecDepth 20000 in
theorem D7 : tb7.all (dOk prog_6_method_3_code) = true := by decide +kernel
abbrev g9 : mG := (⟨"PlaceNets$Script", "readInto", "(LPlaceNets$Net;)I"⟩, prog_6_method_4_code, 3, (some .int), 2, 2, 1, false)
theorem G9 : mGm[9]? = some g9 := rfl
def tb9 : List (Nat × Instr × Nat) := [(0, .aload_n 1, 1), (1, .invokevirtual 19, 3), (4, .aload_n 0, 1), (5, .iconst (0), 1), (6, .putfield 24, 3), (9, .aload_n 0, 1), (10, .iconst (-1), 1), (11, .putfield 27, 3), (14, .aload_n 0, 1), (15, .aload_n 1, 1), (16, .invokevirtual 30, 3), (19, .iconst (1), 1), (20, .istore_n 2, 1), (21, .iload_n 2, 1), (22, .sipush (240), 3), (25, .if_icmp .gt (63), 3), (28, .aload_n 0, 1), (29, .getfield 27, 3), (32, .iconst (-1), 1), (33, .if_icmp .ne (55), 3), (36, .aload_n 0, 1), (37, .getfield 24, 3), (40, .aload_n 0, 1), (41, .getfield 15, 3), (44, .if_icmp .ge (44), 3), (47, .aload_n 0, 1), (48, .bipush (59), 2), (50, .invokevirtual 34, 3), (53, .ifCond .eq (21), 3), (56, .aload_n 0, 1), (57, .dup, 1), (58, .getfield 24, 3), (61, .iconst (1), 1), (62, .iadd, 1), (63, .putfield 24, 3), (66, .aload_n 0, 1), (67, .aload_n 1, 1), (68, .invokevirtual 30, 3), (71, .goto (11), 3), (74, .aload_n 0, 1), (75, .aload_n 0, 1), (76, .getfield 24, 3), (79, .putfield 27, 3), (82, .iinc 2 (1), 3), (85, .goto (-64), 3), (88, .aload_n 0, 1), (89, .getfield 27, 3), (92, .iconst (-1), 1), (93, .if_icmp .ne (18), 3), (96, .aload_n 1, 1), (97, .getfield 38, 3), (100, .ifCond .ne (11), 3), (103, .aload_n 0, 1), (104, .aload_n 0, 1), (105, .getfield 15, 3), (108, .putfield 27, 3), (111, .aload_n 0, 1), (112, .getfield 27, 3), (115, .ireturn, 1)]
set_option maxRecDepth 20000 in
theorem D9 : tb9.all (dOk prog_6_method_4_code) = true := by decide +kernel
abbrev g12 : mG := (⟨"PlaceNets$Script", "readPart", "(LPlaceNets$Net;)V"⟩, prog_6_method_5_code, 2, none, 2, 2, 1, false)
theorem G12 : mGm[12]? = some g12 := rfl
def tb12 : List (Nat × Instr × Nat) := [(0, .aload_n 0, 1), (1, .invokevirtual 41, 3), (4, .aload_n 0, 1), (5, .bipush (109), 2), (7, .invokevirtual 34, 3), (10, .ifCond .eq (28), 3), (13, .aload_n 0, 1), (14, .dup, 1), (15, .getfield 24, 3), (18, .iconst (1), 1), (19, .iadd, 1), (20, .putfield 24, 3), (23, .aload_n 0, 1), (24, .aload_n 1, 1), (25, .aload_n 1, 1), (26, .getfield 44, 3), (29, .iconst (0), 1), (30, .bipush (99), 2), (32, .invokevirtual 48, 3), (35, .goto (8), 3), (38, .aload_n 0, 1), (39, .aload_n 1, 1), (40, .invokevirtual 52, 3), (43, .return_, 1)]
set_option maxRecDepth 20000 in
theorem D12 : tb12.all (dOk prog_6_method_5_code) = true := by decide +kernel
abbrev g13 : mG := (⟨"PlaceNets$Script", "skipBlanks", "()V"⟩, prog_6_method_8_code, 2, none, 2, 1, 1, false)
theorem G13 : mGm[13]? = some g13 := rfl
def tb13 : List (Nat × Instr × Nat) := [(0, .iconst (0), 1), (1, .istore_n 1, 1), (2, .iload_n 1, 1), (3, .sipush (240), 3), (6, .if_icmp .ge (28), 3), (9, .aload_n 0, 1), (10, .bipush (32), 2), (12, .invokevirtual 34, 3), (15, .ifCond .eq (19), 3), (18, .aload_n 0, 1), (19, .dup, 1), (20, .getfield 24, 3), (23, .iconst (1), 1), (24, .iadd, 1), (25, .putfield 24, 3), (28, .iinc 1 (1), 3), (31, .goto (-29), 3), (34, .return_, 1)]
set_option maxRecDepth 20000 in
theorem D13 : tb13.all (dOk prog_6_method_8_code) = true := by decide +kernel
abbrev g14 : mG := (⟨"PlaceNets$Script", "isAt", "(C)Z"⟩, prog_6_method_9_code, 2, (some .boolean), 2, 2, 1, false)
theorem G14 : mGm[14]? = some g14 := rfl
def tb14 : List (Nat × Instr × Nat) := [(0, .aload_n 0, 1), (1, .getfield 24, 3), (4, .aload_n 0, 1), (5, .getfield 15, 3), (8, .if_icmp .ge (20), 3), (11, .aload_n 0, 1), (12, .getfield 9, 3), (15, .aload_n 0, 1), (16, .getfield 24, 3), (19, .caload, 1), (20, .iload_n 1, 1), (21, .if_icmp .ne (7), 3), (24, .iconst (1), 1), (25, .goto (4), 3), (28, .iconst (0), 1), (29, .ireturn, 1)]
set_option maxRecDepth 20000 in
theorem D14 : tb14.all (dOk prog_6_method_9_code) = true := by decide +kernel
abbrev g15 : mG := (⟨"PlaceNets$Script", "readTokens", "(LPlaceNets$Net;[III)V"⟩, prog_6_method_7_code, 9, none, 2, 5, 1, false)
theorem G15 : mGm[15]? = some g15 := rfl
def tb15 : List (Nat × Instr × Nat) := [(0, .aload_n 0, 1), (1, .invokevirtual 41, 3), (4, .iconst (0), 1), (5, .istore 5, 2), (7, .iload 5, 2), (9, .sipush (240), 3), (12, .if_icmp .ge (137), 3), (15, .aload_n 0, 1), (16, .bipush (65), 2), (18, .bipush (74), 2), (20, .invokevirtual 64, 3), (23, .ifCond .eq (126), 3), (26, .aload_n 0, 1), (27, .getfield 24, 3), (30, .istore 6, 2), (32, .aload_n 0, 1), (33, .getfield 9, 3), (36, .iload 6, 2), (38, .caload, 1), (39, .bipush (65), 2), (41, .isub, 1), (42, .istore 7, 2), (44, .iconst (1), 1), (45, .istore 8, 2), (47, .aload_n 0, 1), (48, .dup, 1), (49, .getfield 24, 3), (52, .iconst (1), 1), (53, .iadd, 1), (54, .putfield 24, 3), (57, .aload_n 0, 1), (58, .bipush (49), 2), (60, .bipush (57), 2), (62, .invokevirtual 64, 3), (65, .ifCond .eq (27), 3), (68, .aload_n 0, 1), (69, .getfield 9, 3), (72, .aload_n 0, 1), (73, .getfield 24, 3), (76, .caload, 1), (77, .bipush (48), 2), (79, .isub, 1), (80, .istore 8, 2), (82, .aload_n 0, 1), (83, .dup, 1), (84, .getfield 24, 3), (87, .iconst (1), 1), (88, .iadd, 1), (89, .putfield 24, 3), (92, .aload_n 2, 1), (93, .iload_n 3, 1), (94, .iload 7, 2), (96, .iadd, 1), (97, .iaload, 1), (98, .iload 8, 2), (100, .iadd, 1), (101, .iload 4, 2), (103, .if_icmp .le (10), 3), (106, .aload_n 0, 1), (107, .iload 6, 2), (109, .putfield 27, 3), (112, .return_, 1), (113, .aload_n 2, 1), (114, .iload_n 3, 1), (115, .iload 7, 2), (117, .iadd, 1), (118, .dup2, 1), (119, .iaload, 1), (120, .iload 8, 2), (122, .iadd, 1), (123, .iastore, 1), (124, .aload_n 1, 1), (125, .aload_n 1, 1), (126, .getfield 38, 3), (129, .iload 7, 2), (131, .iconst (1), 1), (132, .iadd, 1), (133, .invokestatic 68, 3), (136, .putfield 38, 3), (139, .aload_n 0, 1), (140, .invokevirtual 41, 3), (143, .iinc 5 (1), 3), (146, .goto (-139), 3), (149, .return_, 1)]
set_option maxRecDepth 20000 in
theorem D15 : tb15.all (dOk prog_6_method_7_code) = true := by decide +kernel
abbrev g16 : mG := (⟨"PlaceNets$Script", "isBetween", "(CC)Z"⟩, prog_6_method_10_code, 3, (some .boolean), 2, 3, 1, false)
theorem G16 : mGm[16]? = some g16 := rfl
def tb16 : List (Nat × Instr × Nat) := [(0, .aload_n 0, 1), (1, .getfield 24, 3), (4, .aload_n 0, 1), (5, .getfield 15, 3), (8, .if_icmp .ge (33), 3), (11, .aload_n 0, 1), (12, .getfield 9, 3), (15, .aload_n 0, 1), (16, .getfield 24, 3), (19, .caload, 1), (20, .iload_n 1, 1), (21, .if_icmp .lt (20), 3), (24, .aload_n 0, 1), (25, .getfield 9, 3), (28, .aload_n 0, 1), (29, .getfield 24, 3), (32, .caload, 1), (33, .iload_n 2, 1), (34, .if_icmp .gt (7), 3), (37, .iconst (1), 1), (38, .goto (4), 3), (41, .iconst (0), 1), (42, .ireturn, 1)]
set_option maxRecDepth 20000 in
theorem D16 : tb16.all (dOk prog_6_method_10_code) = true := by decide +kernel
abbrev g17 : mG := (⟨"PlaceNets$Script", "readTransition", "(LPlaceNets$Net;)V"⟩, prog_6_method_6_code, 3, none, 2, 2, 1, false)
theorem G17 : mGm[17]? = some g17 := rfl
def tb17 : List (Nat × Instr × Nat) := [(0, .aload_n 1, 1), (1, .getfield 55, 3), (4, .bipush (10), 2), (6, .imul, 1), (7, .istore_n 2, 1), (8, .aload_n 0, 1), (9, .aload_n 1, 1), (10, .aload_n 1, 1), (11, .getfield 58, 3), (14, .iload_n 2, 1), (15, .bipush (9), 2), (17, .invokevirtual 48, 3), (20, .aload_n 0, 1), (21, .getfield 27, 3), (24, .iconst (-1), 1), (25, .if_icmp .eq (4), 3), (28, .return_, 1), (29, .aload_n 0, 1), (30, .bipush (62), 2), (32, .invokevirtual 34, 3), (35, .ifCond .eq (12), 3), (38, .aload_n 1, 1), (39, .getfield 55, 3), (42, .bipush (10), 2), (44, .if_icmp .lt (12), 3), (47, .aload_n 0, 1), (48, .aload_n 0, 1), (49, .getfield 24, 3), (52, .putfield 27, 3), (55, .return_, 1), (56, .aload_n 0, 1), (57, .dup, 1), (58, .getfield 24, 3), (61, .iconst (1), 1), (62, .iadd, 1), (63, .putfield 24, 3), (66, .aload_n 1, 1), (67, .dup, 1), (68, .getfield 55, 3), (71, .iconst (1), 1), (72, .iadd, 1), (73, .putfield 55, 3), (76, .aload_n 0, 1), (77, .aload_n 1, 1), (78, .aload_n 1, 1), (79, .getfield 61, 3), (82, .iload_n 2, 1), (83, .bipush (9), 2), (85, .invokevirtual 48, 3), (88, .return_, 1)]
set_option maxRecDepth 20000 in
theorem D17 : tb17.all (dOk prog_6_method_6_code) = true := by decide +kernel
-- PlaceNets$Script.addFour.(I)I, from 0
set_option maxRecDepth 20000 in
theorem bk5_0 {d b : Nat} {Q : Option Value → mMem → Prop} {m : mMem} {x0 : Nat} {x1 : Int32} {x2 : Option Value} (hT : mWT m) (hOx0 : m.1 x0 = some (.inr 1) ∧ x0 ≠ 0)
    (h : (((((iF m x0 0) + 4) ≤ 240) → (mEs d 5 b g5 (17, [some (.ref x0), some (.int x1), some (.int 24)], [], m) Q)) ∧ (¬ (((iF m x0 0) + 4) ≤ 240) → (Q (some (.int ((-1)))) m)))) :
    mEs d 5 b g5 (0, [some (.ref x0), some (.int x1), x2], [], m) Q := by
  refine e_aload_n (pc' := 1) (dAt D5 0 rfl) rfl rfl ?_
  refine e_getfield (pc' := 4) (dAt D5 1 rfl) rfl rfl hOx0 (hT.int hOx0 0 (by decide)) ?_
  refine e_iconst (pc' := 5) (v := 4) (dAt D5 2 rfl) rfl (by decide) ?_
  refine e_iadd (pc' := 6) (dAt D5 3 rfl) rfl ?_
  refine e_sipush (pc' := 9) (v := 240) (dAt D5 4 rfl) rfl (by decide) ?_
  refine e_icmp_le (t := 14) (pc' := 12) (dAt D5 5 rfl) ⟨by decide, by decide⟩ rfl (fun c => ?_) (fun c => ?_)
  · replace h := h.1 c
    refine e_bipush (pc' := 16) (v := 24) (dAt D5 8 rfl) rfl (by decide) ?_
    refine e_istore_n (pc' := 17) (dAt D5 9 rfl) rfl (Nat.le_of_ble_eq_true rfl) rfl ?_
    exact h
  · replace h := h.2 c
    refine e_iconst (pc' := 13) (v := (-1)) (dAt D5 6 rfl) rfl (by decide) ?_
    exact e_ireturn (dAt D5 7 rfl) rfl ⟨rfl, fun e => by cases e⟩ h
-- PlaceNets$Script.addFour.(I)I, from 17
set_option maxRecDepth 20000 in
theorem bk5_17 {d b : Nat} {Q : Option Value → mMem → Prop} {m : mMem} {x0 : Nat} {x1 : Int32} {x2 : Int32} (hT : mWT m) (hOx0 : m.1 x0 = some (.inr 1) ∧ x0 ≠ 0)
    (h : (((x2 < 0) → (Q (some (.int (iF m x0 0))) m)) ∧ (¬ (x2 < 0) → ((mIn (iF m x0 0) 240 = true) ∧ (∀ (m_1 : mMem), m_1 = (mSetI m (64 * x0 + 1) (upd (m.2.2.1 (64 * x0 + 1)) (iF m x0 0).toNatClampNeg (vp_nar .char (((((x1.toUInt32 >>> (x2.toUInt32 &&& Int32.toUInt32 31)).toInt32) &&& 255).toUInt32 % 65536).toInt32)))) → ∀ (m_3 : mMem), m_3 = (mSetF m_1 x0 0 (.int ((iF m_1 x0 0) + 1))) → ∀ (v_5 : Int32), v_5 = (x2 + (-8)) → mEs d 5 b g5 (17, [some (.ref x0), some (.int x1), some (.int v_5)], [], m_3) Q))))) :
    mEs d 5 b g5 (17, [some (.ref x0), some (.int x1), some (.int x2)], [], m) Q := by
  refine e_iload_n (pc' := 18) (dAt D5 10 rfl) rfl rfl ?_
  refine e_if_lt (t := 54) (pc' := 21) (dAt D5 11 rfl) ⟨by decide, by decide⟩ rfl (fun c => ?_) (fun c => ?_)
  · replace h := h.1 c
    refine e_aload_n (pc' := 55) (dAt D5 31 rfl) rfl rfl ?_
    refine e_getfield (pc' := 58) (dAt D5 32 rfl) rfl rfl hOx0 (hT.int hOx0 0 (by decide)) ?_
    exact e_ireturn (dAt D5 33 rfl) rfl ⟨rfl, fun e => by cases e⟩ h
  · replace h := h.2 c
    refine e_aload_n (pc' := 22) (dAt D5 12 rfl) rfl rfl ?_
    refine e_getfield (pc' := 25) (dAt D5 13 rfl) rfl rfl hOx0 (hT.own hOx0 0 rfl) ?_
    refine e_aload_n (pc' := 26) (dAt D5 14 rfl) rfl rfl ?_
    refine e_getfield (pc' := 29) (dAt D5 15 rfl) rfl rfl hOx0 (hT.int hOx0 0 (by decide)) ?_
    refine e_iload_n (pc' := 30) (dAt D5 16 rfl) rfl rfl ?_
    refine e_iload_n (pc' := 31) (dAt D5 17 rfl) rfl rfl ?_
    refine e_iushr (pc' := 32) (dAt D5 18 rfl) rfl ?_
    refine e_sipush (pc' := 35) (v := 255) (dAt D5 19 rfl) rfl (by decide) ?_
    refine e_iand (pc' := 36) (dAt D5 20 rfl) rfl ?_
    refine e_i2c (pc' := 37) (dAt D5 21 rfl) rfl ?_
    obtain ⟨f1, h⟩ := h
    replace h := h _ rfl
    refine e_castore (pc' := 38) (dAt D5 22 rfl) rfl (hT.arr hOx0 0 rfl (by decide)).1 (hT.arr hOx0 0 rfl (by decide)).2 f1 rfl ?_
    refine wtI hT (fun hT_2 => ?_)
    refine e_aload_n (pc' := 39) (dAt D5 23 rfl) rfl rfl ?_
    refine e_dup (pc' := 40) (dAt D5 24 rfl) rfl rfl ?_
    refine e_getfield (pc' := 43) (dAt D5 25 rfl) rfl rfl hOx0 (hT_2.int hOx0 0 (by decide)) ?_
    refine e_iconst (pc' := 44) (v := 1) (dAt D5 26 rfl) rfl (by decide) ?_
    refine e_iadd (pc' := 45) (dAt D5 27 rfl) rfl ?_
    replace h := h _ rfl
    refine e_putfield (pc' := 48) (dAt D5 28 rfl) rfl rfl hOx0 rfl rfl (fun e => by cases e) ?_
    refine wtF hT_2 hOx0 (by decide) (fun hT_4 => ?_)
    replace h := h _ rfl
    refine e_iinc (pc' := 51) (dAt D5 29 rfl) rfl rfl (Nat.le_of_ble_eq_true rfl) (congrArg (_ + ·) (show Int32.ofInt (-8) = (-8 : Int32) by decide)) rfl ?_
    refine e_goto (t := 17) (dAt D5 30 rfl) ⟨by decide, by decide⟩ ?_
    exact h
-- PlaceNets$Script.shorten.(I)Z, from 0
set_option maxRecDepth 20000 in
theorem bk7_0 {d b : Nat} {Q : Option Value → mMem → Prop} {m : mMem} {x0 : Nat} {x1 : Int32} (hT : mWT m) (hOx0 : m.1 x0 = some (.inr 1) ∧ x0 ≠ 0)
    (h : (((x1 < 0) → (Q (some (.int 0)) m)) ∧ (¬ (x1 < 0) → (((x1 ≤ (iF m x0 0)) → (∀ (m_1 : mMem), m_1 = (mSetF m x0 0 (.int x1)) → Q (some (.int 1)) m_1)) ∧ (¬ (x1 ≤ (iF m x0 0)) → (Q (some (.int 0)) m)))))) :
    mEs d 7 b g7 (0, [some (.ref x0), some (.int x1)], [], m) Q := by
  refine e_iload_n (pc' := 1) (dAt D7 0 rfl) rfl rfl ?_
  refine e_if_lt (t := 12) (pc' := 4) (dAt D7 1 rfl) ⟨by decide, by decide⟩ rfl (fun c => ?_) (fun c => ?_)
  · replace h := h.1 c
    refine e_iconst (pc' := 13) (v := 0) (dAt D7 6 rfl) rfl (by decide) ?_
    exact e_ireturn (dAt D7 7 rfl) rfl ⟨rfl, fun e => by cases e⟩ h
  · replace h := h.2 c
    refine e_iload_n (pc' := 5) (dAt D7 2 rfl) rfl rfl ?_
    refine e_aload_n (pc' := 6) (dAt D7 3 rfl) rfl rfl ?_
    refine e_getfield (pc' := 9) (dAt D7 4 rfl) rfl rfl hOx0 (hT.int hOx0 0 (by decide)) ?_
    refine e_icmp_le (t := 14) (pc' := 12) (dAt D7 5 rfl) ⟨by decide, by decide⟩ rfl (fun c => ?_) (fun c => ?_)
    · replace h := h.1 c
      refine e_aload_n (pc' := 15) (dAt D7 8 rfl) rfl rfl ?_
      refine e_iload_n (pc' := 16) (dAt D7 9 rfl) rfl rfl ?_
      replace h := h _ rfl
      refine e_putfield (pc' := 19) (dAt D7 10 rfl) rfl rfl hOx0 rfl rfl (fun e => by cases e) ?_
      refine wtF hT hOx0 (by decide) (fun hT_2 => ?_)
      refine e_iconst (pc' := 20) (v := 1) (dAt D7 11 rfl) rfl (by decide) ?_
      exact e_ireturn (dAt D7 12 rfl) rfl ⟨rfl, fun e => by cases e⟩ h
    · replace h := h.2 c
      refine e_iconst (pc' := 13) (v := 0) (dAt D7 6 rfl) rfl (by decide) ?_
      exact e_ireturn (dAt D7 7 rfl) rfl ⟨rfl, fun e => by cases e⟩ h
-- PlaceNets$Script.readInto.(LPlaceNets$Net;)I, from 0
set_option maxRecDepth 20000 in
theorem bk9_0 {d b : Nat} {Q : Option Value → mMem → Prop} {m : mMem} {x0 : Nat} {x1 : Nat} {x2 : Option Value} (hT : mWT m) (hOx0 : m.1 x0 = some (.inr 1) ∧ x0 ≠ 0) (hOx1 : m.1 x1 = some (.inr 2) ∧ x1 ≠ 0)
    (h : mEv d 10 [.ref x1] m (fun r m' => mEs d 9 b g9 (4, [some (.ref x0), some (.ref x1), x2], r.toList ++ [], m') Q)) :
    mEs d 9 b g9 (0, [some (.ref x0), some (.ref x1), x2], [], m) Q := by
  refine e_aload_n (pc' := 1) (dAt D9 0 rfl) rfl rfl ?_
  exact e_call2 h (dAt D9 1 rfl) (hi0 rfl) rfl G10 (by decide) rfl (Nat.le_of_ble_eq_true rfl) (kV hOx1 rfl rfl) rfl rfl
-- PlaceNets$Script.readInto.(LPlaceNets$Net;)I, from 4
set_option maxRecDepth 20000 in
theorem bk9_4 {d b : Nat} {Q : Option Value → mMem → Prop} {m : mMem} {x0 : Nat} {x1 : Nat} {x2 : Option Value} (hT : mWT m) (hOx0 : m.1 x0 = some (.inr 1) ∧ x0 ≠ 0) (hOx1 : m.1 x1 = some (.inr 2) ∧ x1 ≠ 0)
    (h : ∀ (m_1 : mMem), m_1 = (mSetF m x0 2 (.int 0)) → ∀ (m_3 : mMem), m_3 = (mSetF m_1 x0 3 (.int ((-1)))) → mEv d 12 [.ref x0, .ref x1] m_3 (fun r m' => mEs d 9 b g9 (19, [some (.ref x0), some (.ref x1), x2], r.toList ++ [], m') Q)) :
    mEs d 9 b g9 (4, [some (.ref x0), some (.ref x1), x2], [], m) Q := by
  refine e_aload_n (pc' := 5) (dAt D9 2 rfl) rfl rfl ?_
  refine e_iconst (pc' := 6) (v := 0) (dAt D9 3 rfl) rfl (by decide) ?_
  replace h := h _ rfl
  refine e_putfield (pc' := 9) (dAt D9 4 rfl) rfl rfl hOx0 rfl rfl (fun e => by cases e) ?_
  refine wtF hT hOx0 (by decide) (fun hT_2 => ?_)
  refine e_aload_n (pc' := 10) (dAt D9 5 rfl) rfl rfl ?_
  refine e_iconst (pc' := 11) (v := (-1)) (dAt D9 6 rfl) rfl (by decide) ?_
  replace h := h _ rfl
  refine e_putfield (pc' := 14) (dAt D9 7 rfl) rfl rfl hOx0 rfl rfl (fun e => by cases e) ?_
  refine wtF hT_2 hOx0 (by decide) (fun hT_4 => ?_)
  refine e_aload_n (pc' := 15) (dAt D9 8 rfl) rfl rfl ?_
  refine e_aload_n (pc' := 16) (dAt D9 9 rfl) rfl rfl ?_
  exact e_call2 h (dAt D9 10 rfl) (hi0 rfl) rfl G12 (by decide) rfl (Nat.le_of_ble_eq_true rfl) (kV hOx0 rfl rfl) rfl rfl
-- PlaceNets$Script.readInto.(LPlaceNets$Net;)I, from 19
set_option maxRecDepth 20000 in
theorem bk9_19 {d b : Nat} {Q : Option Value → mMem → Prop} {m : mMem} {x0 : Nat} {x1 : Nat} {x2 : Option Value} (hT : mWT m) (hOx0 : m.1 x0 = some (.inr 1) ∧ x0 ≠ 0) (hOx1 : m.1 x1 = some (.inr 2) ∧ x1 ≠ 0)
    (h : mEs d 9 b g9 (21, [some (.ref x0), some (.ref x1), some (.int 1)], [], m) Q) :
    mEs d 9 b g9 (19, [some (.ref x0), some (.ref x1), x2], [], m) Q := by
  refine e_iconst (pc' := 20) (v := 1) (dAt D9 11 rfl) rfl (by decide) ?_
  refine e_istore_n (pc' := 21) (dAt D9 12 rfl) rfl (Nat.le_of_ble_eq_true rfl) rfl ?_
  exact h
-- PlaceNets$Script.readInto.(LPlaceNets$Net;)I, from 21
set_option maxRecDepth 20000 in
theorem bk9_21 {d b : Nat} {Q : Option Value → mMem → Prop} {m : mMem} {x0 : Nat} {x1 : Nat} {x2 : Int32} (hT : mWT m) (hOx0 : m.1 x0 = some (.inr 1) ∧ x0 ≠ 0) (hOx1 : m.1 x1 = some (.inr 2) ∧ x1 ≠ 0)
    (h : (((240 < x2) → (((¬ (iF m x0 3) = ((-1))) → (Q (some (.int (iF m x0 3))) m)) ∧ (¬ (¬ (iF m x0 3) = ((-1))) → (((¬ (iF m x1 0) = 0) → (Q (some (.int (iF m x0 3))) m)) ∧ (¬ (¬ (iF m x1 0) = 0) → (∀ (m_1 : mMem), m_1 = (mSetF m x0 3 (.int (iF m x0 0))) → Q (some (.int (iF m_1 x0 3))) m_1)))))) ∧ (¬ (240 < x2) → (((¬ (iF m x0 3) = ((-1))) → (((¬ (iF m x0 3) = ((-1))) → (Q (some (.int (iF m x0 3))) m)) ∧ (¬ (¬ (iF m x0 3) = ((-1))) → (((¬ (iF m x1 0) = 0) → (Q (some (.int (iF m x0 3))) m)) ∧ (¬ (¬ (iF m x1 0) = 0) → (∀ (m_3 : mMem), m_3 = (mSetF m x0 3 (.int (iF m x0 0))) → Q (some (.int (iF m_3 x0 3))) m_3)))))) ∧ (¬ (¬ (iF m x0 3) = ((-1))) → ((((iF m x0 0) ≤ (iF m x0 2)) → (((¬ (iF m x0 3) = ((-1))) → (Q (some (.int (iF m x0 3))) m)) ∧ (¬ (¬ (iF m x0 3) = ((-1))) → (((¬ (iF m x1 0) = 0) → (Q (some (.int (iF m x0 3))) m)) ∧ (¬ (¬ (iF m x1 0) = 0) → (∀ (m_5 : mMem), m_5 = (mSetF m x0 3 (.int (iF m x0 0))) → Q (some (.int (iF m_5 x0 3))) m_5)))))) ∧ (¬ ((iF m x0 0) ≤ (iF m x0 2)) → (mEv d 14 [.ref x0, .int 59] m (fun r m' => mEs d 9 b g9 (53, [some (.ref x0), some (.ref x1), some (.int x2)], r.toList ++ [], m') Q))))))))) :
    mEs d 9 b g9 (21, [some (.ref x0), some (.ref x1), some (.int x2)], [], m) Q := by
  refine e_iload_n (pc' := 22) (dAt D9 13 rfl) rfl rfl ?_
  refine e_sipush (pc' := 25) (v := 240) (dAt D9 14 rfl) rfl (by decide) ?_
  refine e_icmp_gt (t := 88) (pc' := 28) (dAt D9 15 rfl) ⟨by decide, by decide⟩ rfl (fun c => ?_) (fun c => ?_)
  · replace h := h.1 c
    refine e_aload_n (pc' := 89) (dAt D9 45 rfl) rfl rfl ?_
    refine e_getfield (pc' := 92) (dAt D9 46 rfl) rfl rfl hOx0 (hT.int hOx0 3 (by decide)) ?_
    refine e_iconst (pc' := 93) (v := (-1)) (dAt D9 47 rfl) rfl (by decide) ?_
    refine e_icmp_ne (t := 111) (pc' := 96) (dAt D9 48 rfl) ⟨by decide, by decide⟩ rfl (fun c => ?_) (fun c => ?_)
    · replace h := h.1 c
      refine e_aload_n (pc' := 112) (dAt D9 56 rfl) rfl rfl ?_
      refine e_getfield (pc' := 115) (dAt D9 57 rfl) rfl rfl hOx0 (hT.int hOx0 3 (by decide)) ?_
      exact e_ireturn (dAt D9 58 rfl) rfl ⟨rfl, fun e => by cases e⟩ h
    · replace h := h.2 c
      refine e_aload_n (pc' := 97) (dAt D9 49 rfl) rfl rfl ?_
      refine e_getfield (pc' := 100) (dAt D9 50 rfl) rfl rfl hOx1 (hT.int hOx1 0 (by decide)) ?_
      refine e_if_ne (t := 111) (pc' := 103) (dAt D9 51 rfl) ⟨by decide, by decide⟩ rfl (fun c => ?_) (fun c => ?_)
      · replace h := h.1 c
        refine e_aload_n (pc' := 112) (dAt D9 56 rfl) rfl rfl ?_
        refine e_getfield (pc' := 115) (dAt D9 57 rfl) rfl rfl hOx0 (hT.int hOx0 3 (by decide)) ?_
        exact e_ireturn (dAt D9 58 rfl) rfl ⟨rfl, fun e => by cases e⟩ h
      · replace h := h.2 c
        refine e_aload_n (pc' := 104) (dAt D9 52 rfl) rfl rfl ?_
        refine e_aload_n (pc' := 105) (dAt D9 53 rfl) rfl rfl ?_
        refine e_getfield (pc' := 108) (dAt D9 54 rfl) rfl rfl hOx0 (hT.int hOx0 0 (by decide)) ?_
        replace h := h _ rfl
        refine e_putfield (pc' := 111) (dAt D9 55 rfl) rfl rfl hOx0 rfl rfl (fun e => by cases e) ?_
        refine wtF hT hOx0 (by decide) (fun hT_2 => ?_)
        refine e_aload_n (pc' := 112) (dAt D9 56 rfl) rfl rfl ?_
        refine e_getfield (pc' := 115) (dAt D9 57 rfl) rfl rfl hOx0 (hT_2.int hOx0 3 (by decide)) ?_
        exact e_ireturn (dAt D9 58 rfl) rfl ⟨rfl, fun e => by cases e⟩ h
  · replace h := h.2 c
    refine e_aload_n (pc' := 29) (dAt D9 16 rfl) rfl rfl ?_
    refine e_getfield (pc' := 32) (dAt D9 17 rfl) rfl rfl hOx0 (hT.int hOx0 3 (by decide)) ?_
    refine e_iconst (pc' := 33) (v := (-1)) (dAt D9 18 rfl) rfl (by decide) ?_
    refine e_icmp_ne (t := 88) (pc' := 36) (dAt D9 19 rfl) ⟨by decide, by decide⟩ rfl (fun c => ?_) (fun c => ?_)
    · replace h := h.1 c
      refine e_aload_n (pc' := 89) (dAt D9 45 rfl) rfl rfl ?_
      refine e_getfield (pc' := 92) (dAt D9 46 rfl) rfl rfl hOx0 (hT.int hOx0 3 (by decide)) ?_
      refine e_iconst (pc' := 93) (v := (-1)) (dAt D9 47 rfl) rfl (by decide) ?_
      refine e_icmp_ne (t := 111) (pc' := 96) (dAt D9 48 rfl) ⟨by decide, by decide⟩ rfl (fun c => ?_) (fun c => ?_)
      · replace h := h.1 c
        refine e_aload_n (pc' := 112) (dAt D9 56 rfl) rfl rfl ?_
        refine e_getfield (pc' := 115) (dAt D9 57 rfl) rfl rfl hOx0 (hT.int hOx0 3 (by decide)) ?_
        exact e_ireturn (dAt D9 58 rfl) rfl ⟨rfl, fun e => by cases e⟩ h
      · replace h := h.2 c
        refine e_aload_n (pc' := 97) (dAt D9 49 rfl) rfl rfl ?_
        refine e_getfield (pc' := 100) (dAt D9 50 rfl) rfl rfl hOx1 (hT.int hOx1 0 (by decide)) ?_
        refine e_if_ne (t := 111) (pc' := 103) (dAt D9 51 rfl) ⟨by decide, by decide⟩ rfl (fun c => ?_) (fun c => ?_)
        · replace h := h.1 c
          refine e_aload_n (pc' := 112) (dAt D9 56 rfl) rfl rfl ?_
          refine e_getfield (pc' := 115) (dAt D9 57 rfl) rfl rfl hOx0 (hT.int hOx0 3 (by decide)) ?_
          exact e_ireturn (dAt D9 58 rfl) rfl ⟨rfl, fun e => by cases e⟩ h
        · replace h := h.2 c
          refine e_aload_n (pc' := 104) (dAt D9 52 rfl) rfl rfl ?_
          refine e_aload_n (pc' := 105) (dAt D9 53 rfl) rfl rfl ?_
          refine e_getfield (pc' := 108) (dAt D9 54 rfl) rfl rfl hOx0 (hT.int hOx0 0 (by decide)) ?_
          replace h := h _ rfl
          refine e_putfield (pc' := 111) (dAt D9 55 rfl) rfl rfl hOx0 rfl rfl (fun e => by cases e) ?_
          refine wtF hT hOx0 (by decide) (fun hT_4 => ?_)
          refine e_aload_n (pc' := 112) (dAt D9 56 rfl) rfl rfl ?_
          refine e_getfield (pc' := 115) (dAt D9 57 rfl) rfl rfl hOx0 (hT_4.int hOx0 3 (by decide)) ?_
          exact e_ireturn (dAt D9 58 rfl) rfl ⟨rfl, fun e => by cases e⟩ h
    · replace h := h.2 c
      refine e_aload_n (pc' := 37) (dAt D9 20 rfl) rfl rfl ?_
      refine e_getfield (pc' := 40) (dAt D9 21 rfl) rfl rfl hOx0 (hT.int hOx0 2 (by decide)) ?_
      refine e_aload_n (pc' := 41) (dAt D9 22 rfl) rfl rfl ?_
      refine e_getfield (pc' := 44) (dAt D9 23 rfl) rfl rfl hOx0 (hT.int hOx0 0 (by decide)) ?_
      refine e_icmp_ge (t := 88) (pc' := 47) (dAt D9 24 rfl) ⟨by decide, by decide⟩ rfl (fun c => ?_) (fun c => ?_)
      · replace h := h.1 c
        refine e_aload_n (pc' := 89) (dAt D9 45 rfl) rfl rfl ?_
        refine e_getfield (pc' := 92) (dAt D9 46 rfl) rfl rfl hOx0 (hT.int hOx0 3 (by decide)) ?_
        refine e_iconst (pc' := 93) (v := (-1)) (dAt D9 47 rfl) rfl (by decide) ?_
        refine e_icmp_ne (t := 111) (pc' := 96) (dAt D9 48 rfl) ⟨by decide, by decide⟩ rfl (fun c => ?_) (fun c => ?_)
        · replace h := h.1 c
          refine e_aload_n (pc' := 112) (dAt D9 56 rfl) rfl rfl ?_
          refine e_getfield (pc' := 115) (dAt D9 57 rfl) rfl rfl hOx0 (hT.int hOx0 3 (by decide)) ?_
          exact e_ireturn (dAt D9 58 rfl) rfl ⟨rfl, fun e => by cases e⟩ h
        · replace h := h.2 c
          refine e_aload_n (pc' := 97) (dAt D9 49 rfl) rfl rfl ?_
          refine e_getfield (pc' := 100) (dAt D9 50 rfl) rfl rfl hOx1 (hT.int hOx1 0 (by decide)) ?_
          refine e_if_ne (t := 111) (pc' := 103) (dAt D9 51 rfl) ⟨by decide, by decide⟩ rfl (fun c => ?_) (fun c => ?_)
          · replace h := h.1 c
            refine e_aload_n (pc' := 112) (dAt D9 56 rfl) rfl rfl ?_
            refine e_getfield (pc' := 115) (dAt D9 57 rfl) rfl rfl hOx0 (hT.int hOx0 3 (by decide)) ?_
            exact e_ireturn (dAt D9 58 rfl) rfl ⟨rfl, fun e => by cases e⟩ h
          · replace h := h.2 c
            refine e_aload_n (pc' := 104) (dAt D9 52 rfl) rfl rfl ?_
            refine e_aload_n (pc' := 105) (dAt D9 53 rfl) rfl rfl ?_
            refine e_getfield (pc' := 108) (dAt D9 54 rfl) rfl rfl hOx0 (hT.int hOx0 0 (by decide)) ?_
            replace h := h _ rfl
            refine e_putfield (pc' := 111) (dAt D9 55 rfl) rfl rfl hOx0 rfl rfl (fun e => by cases e) ?_
            refine wtF hT hOx0 (by decide) (fun hT_6 => ?_)
            refine e_aload_n (pc' := 112) (dAt D9 56 rfl) rfl rfl ?_
            refine e_getfield (pc' := 115) (dAt D9 57 rfl) rfl rfl hOx0 (hT_6.int hOx0 3 (by decide)) ?_
            exact e_ireturn (dAt D9 58 rfl) rfl ⟨rfl, fun e => by cases e⟩ h
      · replace h := h.2 c
        refine e_aload_n (pc' := 48) (dAt D9 25 rfl) rfl rfl ?_
        refine e_bipush (pc' := 50) (v := 59) (dAt D9 26 rfl) rfl (by decide) ?_
        exact e_call2 h (dAt D9 27 rfl) (hi0 rfl) rfl G14 (by decide) rfl (Nat.le_of_ble_eq_true rfl) (kV hOx0 rfl rfl) rfl rfl
-- PlaceNets$Script.readInto.(LPlaceNets$Net;)I, from 53
set_option maxRecDepth 20000 in
theorem bk9_53 {d b : Nat} {Q : Option Value → mMem → Prop} {m : mMem} {x0 : Nat} {x1 : Nat} {x2 : Int32} {y0 : Int32} (hT : mWT m) (hOx0 : m.1 x0 = some (.inr 1) ∧ x0 ≠ 0) (hOx1 : m.1 x1 = some (.inr 2) ∧ x1 ≠ 0)
    (h : (((y0 = 0) → (∀ (m_1 : mMem), m_1 = (mSetF m x0 3 (.int (iF m x0 2))) → ∀ (v_3 : Int32), v_3 = (x2 + 1) → mEs d 9 b g9 (21, [some (.ref x0), some (.ref x1), some (.int v_3)], [], m_1) Q)) ∧ (¬ (y0 = 0) → (∀ (m_4 : mMem), m_4 = (mSetF m x0 2 (.int ((iF m x0 2) + 1))) → mEv d 12 [.ref x0, .ref x1] m_4 (fun r m' => mEs d 9 b g9 (71, [some (.ref x0), some (.ref x1), some (.int x2)], r.toList ++ [], m') Q))))) :
    mEs d 9 b g9 (53, [some (.ref x0), some (.ref x1), some (.int x2)], [.int y0], m) Q := by
  refine e_if_eq (t := 74) (pc' := 56) (dAt D9 28 rfl) ⟨by decide, by decide⟩ rfl (fun c => ?_) (fun c => ?_)
  · replace h := h.1 c
    refine e_aload_n (pc' := 75) (dAt D9 39 rfl) rfl rfl ?_
    refine e_aload_n (pc' := 76) (dAt D9 40 rfl) rfl rfl ?_
    refine e_getfield (pc' := 79) (dAt D9 41 rfl) rfl rfl hOx0 (hT.int hOx0 2 (by decide)) ?_
    replace h := h _ rfl
    refine e_putfield (pc' := 82) (dAt D9 42 rfl) rfl rfl hOx0 rfl rfl (fun e => by cases e) ?_
    refine wtF hT hOx0 (by decide) (fun hT_2 => ?_)
    replace h := h _ rfl
    refine e_iinc (pc' := 85) (dAt D9 43 rfl) rfl rfl (Nat.le_of_ble_eq_true rfl) (congrArg (_ + ·) (show Int32.ofInt (1) = (1 : Int32) by decide)) rfl ?_
    refine e_goto (t := 21) (dAt D9 44 rfl) ⟨by decide, by decide⟩ ?_
    exact h
  · replace h := h.2 c
    refine e_aload_n (pc' := 57) (dAt D9 29 rfl) rfl rfl ?_
    refine e_dup (pc' := 58) (dAt D9 30 rfl) rfl rfl ?_
    refine e_getfield (pc' := 61) (dAt D9 31 rfl) rfl rfl hOx0 (hT.int hOx0 2 (by decide)) ?_
    refine e_iconst (pc' := 62) (v := 1) (dAt D9 32 rfl) rfl (by decide) ?_
    refine e_iadd (pc' := 63) (dAt D9 33 rfl) rfl ?_
    replace h := h _ rfl
    refine e_putfield (pc' := 66) (dAt D9 34 rfl) rfl rfl hOx0 rfl rfl (fun e => by cases e) ?_
    refine wtF hT hOx0 (by decide) (fun hT_5 => ?_)
    refine e_aload_n (pc' := 67) (dAt D9 35 rfl) rfl rfl ?_
    refine e_aload_n (pc' := 68) (dAt D9 36 rfl) rfl rfl ?_
    exact e_call2 h (dAt D9 37 rfl) (hi0 rfl) rfl G12 (by decide) rfl (Nat.le_of_ble_eq_true rfl) (kV hOx0 rfl rfl) rfl rfl
-- PlaceNets$Script.readInto.(LPlaceNets$Net;)I, from 71
set_option maxRecDepth 20000 in
theorem bk9_71 {d b : Nat} {Q : Option Value → mMem → Prop} {m : mMem} {x0 : Nat} {x1 : Nat} {x2 : Int32} (hT : mWT m) (hOx0 : m.1 x0 = some (.inr 1) ∧ x0 ≠ 0) (hOx1 : m.1 x1 = some (.inr 2) ∧ x1 ≠ 0)
    (h : ∀ (v_1 : Int32), v_1 = (x2 + 1) → mEs d 9 b g9 (21, [some (.ref x0), some (.ref x1), some (.int v_1)], [], m) Q) :
    mEs d 9 b g9 (71, [some (.ref x0), some (.ref x1), some (.int x2)], [], m) Q := by
  refine e_goto (t := 82) (dAt D9 38 rfl) ⟨by decide, by decide⟩ ?_
  replace h := h _ rfl
  refine e_iinc (pc' := 85) (dAt D9 43 rfl) rfl rfl (Nat.le_of_ble_eq_true rfl) (congrArg (_ + ·) (show Int32.ofInt (1) = (1 : Int32) by decide)) rfl ?_
  refine e_goto (t := 21) (dAt D9 44 rfl) ⟨by decide, by decide⟩ ?_
  exact h
-- PlaceNets$Script.readPart.(LPlaceNets$Net;)V, from 0
set_option maxRecDepth 20000 in
theorem bk12_0 {d b : Nat} {Q : Option Value → mMem → Prop} {m : mMem} {x0 : Nat} {x1 : Nat} (hT : mWT m) (hOx0 : m.1 x0 = some (.inr 1) ∧ x0 ≠ 0) (hOx1 : m.1 x1 = some (.inr 2) ∧ x1 ≠ 0)
    (h : mEv d 13 [.ref x0] m (fun r m' => mEs d 12 b g12 (4, [some (.ref x0), some (.ref x1)], r.toList ++ [], m') Q)) :
    mEs d 12 b g12 (0, [some (.ref x0), some (.ref x1)], [], m) Q := by
  refine e_aload_n (pc' := 1) (dAt D12 0 rfl) rfl rfl ?_
  exact e_call2 h (dAt D12 1 rfl) (hi0 rfl) rfl G13 (by decide) rfl (Nat.le_of_ble_eq_true rfl) (kV hOx0 rfl rfl) rfl rfl
-- PlaceNets$Script.readPart.(LPlaceNets$Net;)V, from 4
set_option maxRecDepth 20000 in
theorem bk12_4 {d b : Nat} {Q : Option Value → mMem → Prop} {m : mMem} {x0 : Nat} {x1 : Nat} (hT : mWT m) (hOx0 : m.1 x0 = some (.inr 1) ∧ x0 ≠ 0) (hOx1 : m.1 x1 = some (.inr 2) ∧ x1 ≠ 0)
    (h : mEv d 14 [.ref x0, .int 109] m (fun r m' => mEs d 12 b g12 (10, [some (.ref x0), some (.ref x1)], r.toList ++ [], m') Q)) :
    mEs d 12 b g12 (4, [some (.ref x0), some (.ref x1)], [], m) Q := by
  refine e_aload_n (pc' := 5) (dAt D12 2 rfl) rfl rfl ?_
  refine e_bipush (pc' := 7) (v := 109) (dAt D12 3 rfl) rfl (by decide) ?_
  exact e_call2 h (dAt D12 4 rfl) (hi0 rfl) rfl G14 (by decide) rfl (Nat.le_of_ble_eq_true rfl) (kV hOx0 rfl rfl) rfl rfl
-- PlaceNets$Script.readPart.(LPlaceNets$Net;)V, from 10
set_option maxRecDepth 20000 in
theorem bk12_10 {d b : Nat} {Q : Option Value → mMem → Prop} {m : mMem} {x0 : Nat} {x1 : Nat} {y0 : Int32} (hT : mWT m) (hOx0 : m.1 x0 = some (.inr 1) ∧ x0 ≠ 0) (hOx1 : m.1 x1 = some (.inr 2) ∧ x1 ≠ 0)
    (h : (((y0 = 0) → (mEv d 17 [.ref x0, .ref x1] m (fun r m' => mEs d 12 b g12 (43, [some (.ref x0), some (.ref x1)], r.toList ++ [], m') Q))) ∧ (¬ (y0 = 0) → (∀ (m_1 : mMem), m_1 = (mSetF m x0 2 (.int ((iF m x0 2) + 1))) → mEv d 15 [.ref x0, .ref x1, .ref (64 * x1 + 1), .int 0, .int 99] m_1 (fun r m' => mEs d 12 b g12 (35, [some (.ref x0), some (.ref x1)], r.toList ++ [], m') Q))))) :
    mEs d 12 b g12 (10, [some (.ref x0), some (.ref x1)], [.int y0], m) Q := by
  refine e_if_eq (t := 38) (pc' := 13) (dAt D12 5 rfl) ⟨by decide, by decide⟩ rfl (fun c => ?_) (fun c => ?_)
  · replace h := h.1 c
    refine e_aload_n (pc' := 39) (dAt D12 20 rfl) rfl rfl ?_
    refine e_aload_n (pc' := 40) (dAt D12 21 rfl) rfl rfl ?_
    exact e_call2 h (dAt D12 22 rfl) (hi0 rfl) rfl G17 (by decide) rfl (Nat.le_of_ble_eq_true rfl) (kV hOx0 rfl rfl) rfl rfl
  · replace h := h.2 c
    refine e_aload_n (pc' := 14) (dAt D12 6 rfl) rfl rfl ?_
    refine e_dup (pc' := 15) (dAt D12 7 rfl) rfl rfl ?_
    refine e_getfield (pc' := 18) (dAt D12 8 rfl) rfl rfl hOx0 (hT.int hOx0 2 (by decide)) ?_
    refine e_iconst (pc' := 19) (v := 1) (dAt D12 9 rfl) rfl (by decide) ?_
    refine e_iadd (pc' := 20) (dAt D12 10 rfl) rfl ?_
    replace h := h _ rfl
    refine e_putfield (pc' := 23) (dAt D12 11 rfl) rfl rfl hOx0 rfl rfl (fun e => by cases e) ?_
    refine wtF hT hOx0 (by decide) (fun hT_2 => ?_)
    refine e_aload_n (pc' := 24) (dAt D12 12 rfl) rfl rfl ?_
    refine e_aload_n (pc' := 25) (dAt D12 13 rfl) rfl rfl ?_
    refine e_aload_n (pc' := 26) (dAt D12 14 rfl) rfl rfl ?_
    refine e_getfield (pc' := 29) (dAt D12 15 rfl) rfl rfl hOx1 (hT_2.own hOx1 0 rfl) ?_
    refine e_iconst (pc' := 30) (v := 0) (dAt D12 16 rfl) rfl (by decide) ?_
    refine e_bipush (pc' := 32) (v := 99) (dAt D12 17 rfl) rfl (by decide) ?_
    exact e_call2 h (dAt D12 18 rfl) (hi0 rfl) rfl G15 (by decide) rfl (Nat.le_of_ble_eq_true rfl) (kV hOx0 rfl rfl) rfl rfl
-- PlaceNets$Script.readPart.(LPlaceNets$Net;)V, from 35
set_option maxRecDepth 20000 in
theorem bk12_35 {d b : Nat} {Q : Option Value → mMem → Prop} {m : mMem} {x0 : Nat} {x1 : Nat} (hT : mWT m) (hOx0 : m.1 x0 = some (.inr 1) ∧ x0 ≠ 0) (hOx1 : m.1 x1 = some (.inr 2) ∧ x1 ≠ 0)
    (h : mEs d 12 b g12 (43, [some (.ref x0), some (.ref x1)], [], m) Q) :
    mEs d 12 b g12 (35, [some (.ref x0), some (.ref x1)], [], m) Q := by
  refine e_goto (t := 43) (dAt D12 19 rfl) ⟨by decide, by decide⟩ ?_
  exact h
-- PlaceNets$Script.readPart.(LPlaceNets$Net;)V, from 43
set_option maxRecDepth 20000 in
theorem bk12_43 {d b : Nat} {Q : Option Value → mMem → Prop} {m : mMem} {x0 : Nat} {x1 : Nat} (hT : mWT m) (hOx0 : m.1 x0 = some (.inr 1) ∧ x0 ≠ 0) (hOx1 : m.1 x1 = some (.inr 2) ∧ x1 ≠ 0)
    (h : Q none m) :
    mEs d 12 b g12 (43, [some (.ref x0), some (.ref x1)], [], m) Q := by
  exact e_return (dAt D12 23 rfl) rfl h
-- PlaceNets$Script.skipBlanks.()V, from 0
set_option maxRecDepth 20000 in
theorem bk13_0 {d b : Nat} {Q : Option Value → mMem → Prop} {m : mMem} {x0 : Nat} {x1 : Option Value} (hT : mWT m) (hOx0 : m.1 x0 = some (.inr 1) ∧ x0 ≠ 0)
    (h : mEs d 13 b g13 (2, [some (.ref x0), some (.int 0)], [], m) Q) :
    mEs d 13 b g13 (0, [some (.ref x0), x1], [], m) Q := by
  refine e_iconst (pc' := 1) (v := 0) (dAt D13 0 rfl) rfl (by decide) ?_
  refine e_istore_n (pc' := 2) (dAt D13 1 rfl) rfl (Nat.le_of_ble_eq_true rfl) rfl ?_
  exact h
-- PlaceNets$Script.skipBlanks.()V, from 2
set_option maxRecDepth 20000 in
theorem bk13_2 {d b : Nat} {Q : Option Value → mMem → Prop} {m : mMem} {x0 : Nat} {x1 : Int32} (hT : mWT m) (hOx0 : m.1 x0 = some (.inr 1) ∧ x0 ≠ 0)
    (h : (((240 ≤ x1) → (Q none m)) ∧ (¬ (240 ≤ x1) → (mEv d 14 [.ref x0, .int 32] m (fun r m' => mEs d 13 b g13 (15, [some (.ref x0), some (.int x1)], r.toList ++ [], m') Q))))) :
    mEs d 13 b g13 (2, [some (.ref x0), some (.int x1)], [], m) Q := by
  refine e_iload_n (pc' := 3) (dAt D13 2 rfl) rfl rfl ?_
  refine e_sipush (pc' := 6) (v := 240) (dAt D13 3 rfl) rfl (by decide) ?_
  refine e_icmp_ge (t := 34) (pc' := 9) (dAt D13 4 rfl) ⟨by decide, by decide⟩ rfl (fun c => ?_) (fun c => ?_)
  · replace h := h.1 c
    exact e_return (dAt D13 17 rfl) rfl h
  · replace h := h.2 c
    refine e_aload_n (pc' := 10) (dAt D13 5 rfl) rfl rfl ?_
    refine e_bipush (pc' := 12) (v := 32) (dAt D13 6 rfl) rfl (by decide) ?_
    exact e_call2 h (dAt D13 7 rfl) (hi0 rfl) rfl G14 (by decide) rfl (Nat.le_of_ble_eq_true rfl) (kV hOx0 rfl rfl) rfl rfl
-- PlaceNets$Script.skipBlanks.()V, from 15
set_option maxRecDepth 20000 in
theorem bk13_15 {d b : Nat} {Q : Option Value → mMem → Prop} {m : mMem} {x0 : Nat} {x1 : Int32} {y0 : Int32} (hT : mWT m) (hOx0 : m.1 x0 = some (.inr 1) ∧ x0 ≠ 0)
    (h : (((y0 = 0) → (Q none m)) ∧ (¬ (y0 = 0) → (∀ (m_1 : mMem), m_1 = (mSetF m x0 2 (.int ((iF m x0 2) + 1))) → ∀ (v_3 : Int32), v_3 = (x1 + 1) → mEs d 13 b g13 (2, [some (.ref x0), some (.int v_3)], [], m_1) Q)))) :
    mEs d 13 b g13 (15, [some (.ref x0), some (.int x1)], [.int y0], m) Q := by
  refine e_if_eq (t := 34) (pc' := 18) (dAt D13 8 rfl) ⟨by decide, by decide⟩ rfl (fun c => ?_) (fun c => ?_)
  · replace h := h.1 c
    exact e_return (dAt D13 17 rfl) rfl h
  · replace h := h.2 c
    refine e_aload_n (pc' := 19) (dAt D13 9 rfl) rfl rfl ?_
    refine e_dup (pc' := 20) (dAt D13 10 rfl) rfl rfl ?_
    refine e_getfield (pc' := 23) (dAt D13 11 rfl) rfl rfl hOx0 (hT.int hOx0 2 (by decide)) ?_
    refine e_iconst (pc' := 24) (v := 1) (dAt D13 12 rfl) rfl (by decide) ?_
    refine e_iadd (pc' := 25) (dAt D13 13 rfl) rfl ?_
    replace h := h _ rfl
    refine e_putfield (pc' := 28) (dAt D13 14 rfl) rfl rfl hOx0 rfl rfl (fun e => by cases e) ?_
    refine wtF hT hOx0 (by decide) (fun hT_2 => ?_)
    replace h := h _ rfl
    refine e_iinc (pc' := 31) (dAt D13 15 rfl) rfl rfl (Nat.le_of_ble_eq_true rfl) (congrArg (_ + ·) (show Int32.ofInt (1) = (1 : Int32) by decide)) rfl ?_
    refine e_goto (t := 2) (dAt D13 16 rfl) ⟨by decide, by decide⟩ ?_
    exact h
-- PlaceNets$Script.isAt.(C)Z, from 0
set_option maxRecDepth 20000 in
theorem bk14_0 {d b : Nat} {Q : Option Value → mMem → Prop} {m : mMem} {x0 : Nat} {x1 : Int32} (hT : mWT m) (hOx0 : m.1 x0 = some (.inr 1) ∧ x0 ≠ 0)
    (h : ((((iF m x0 0) ≤ (iF m x0 2)) → (Q (some (.int 0)) m)) ∧ (¬ ((iF m x0 0) ≤ (iF m x0 2)) → ((mIn (iF m x0 2) 240 = true) ∧ (((¬ (m.2.2.1 (64 * x0 + 1) (iF m x0 2).toNatClampNeg) = x1) → (Q (some (.int 0)) m)) ∧ (¬ (¬ (m.2.2.1 (64 * x0 + 1) (iF m x0 2).toNatClampNeg) = x1) → (Q (some (.int 1)) m))))))) :
    mEs d 14 b g14 (0, [some (.ref x0), some (.int x1)], [], m) Q := by
  refine e_aload_n (pc' := 1) (dAt D14 0 rfl) rfl rfl ?_
  refine e_getfield (pc' := 4) (dAt D14 1 rfl) rfl rfl hOx0 (hT.int hOx0 2 (by decide)) ?_
  refine e_aload_n (pc' := 5) (dAt D14 2 rfl) rfl rfl ?_
  refine e_getfield (pc' := 8) (dAt D14 3 rfl) rfl rfl hOx0 (hT.int hOx0 0 (by decide)) ?_
  refine e_icmp_ge (t := 28) (pc' := 11) (dAt D14 4 rfl) ⟨by decide, by decide⟩ rfl (fun c => ?_) (fun c => ?_)
  · replace h := h.1 c
    refine e_iconst (pc' := 29) (v := 0) (dAt D14 14 rfl) rfl (by decide) ?_
    exact e_ireturn (dAt D14 15 rfl) rfl ⟨rfl, fun e => by cases e⟩ h
  · replace h := h.2 c
    refine e_aload_n (pc' := 12) (dAt D14 5 rfl) rfl rfl ?_
    refine e_getfield (pc' := 15) (dAt D14 6 rfl) rfl rfl hOx0 (hT.own hOx0 0 rfl) ?_
    refine e_aload_n (pc' := 16) (dAt D14 7 rfl) rfl rfl ?_
    refine e_getfield (pc' := 19) (dAt D14 8 rfl) rfl rfl hOx0 (hT.int hOx0 2 (by decide)) ?_
    obtain ⟨f1, h⟩ := h
    refine e_caload (pc' := 20) (dAt D14 9 rfl) rfl (hT.arr hOx0 0 rfl (by decide)).1 (Or.inl (hT.arr hOx0 0 rfl (by decide)).2) f1 rfl ?_
    refine e_iload_n (pc' := 21) (dAt D14 10 rfl) rfl rfl ?_
    refine e_icmp_ne (t := 28) (pc' := 24) (dAt D14 11 rfl) ⟨by decide, by decide⟩ rfl (fun c => ?_) (fun c => ?_)
    · replace h := h.1 c
      refine e_iconst (pc' := 29) (v := 0) (dAt D14 14 rfl) rfl (by decide) ?_
      exact e_ireturn (dAt D14 15 rfl) rfl ⟨rfl, fun e => by cases e⟩ h
    · replace h := h.2 c
      refine e_iconst (pc' := 25) (v := 1) (dAt D14 12 rfl) rfl (by decide) ?_
      refine e_goto (t := 29) (dAt D14 13 rfl) ⟨by decide, by decide⟩ ?_
      exact e_ireturn (dAt D14 15 rfl) rfl ⟨rfl, fun e => by cases e⟩ h
-- PlaceNets$Script.readTokens.(LPlaceNets$Net;[III)V, from 0
set_option maxRecDepth 20000 in
theorem bk15_0 {d b : Nat} {Q : Option Value → mMem → Prop} {m : mMem} {x0 : Nat} {x1 : Nat} {x2 : Nat} {lx2 : Nat} {x3 : Int32} {x4 : Int32} {x5 : Option Value} {x6 : Option Value} {x7 : Option Value} {x8 : Option Value} (hT : mWT m) (hOx0 : m.1 x0 = some (.inr 1) ∧ x0 ≠ 0) (hOx1 : m.1 x1 = some (.inr 2) ∧ x1 ≠ 0) (hAx2 : m.1 x2 = some (.inl (.int, lx2)) ∧ x2 ≠ 0)
    (h : mEv d 13 [.ref x0] m (fun r m' => mEs d 15 b g15 (4, [some (.ref x0), some (.ref x1), some (.ref x2), some (.int x3), some (.int x4), x5, x6, x7, x8], r.toList ++ [], m') Q)) :
    mEs d 15 b g15 (0, [some (.ref x0), some (.ref x1), some (.ref x2), some (.int x3), some (.int x4), x5, x6, x7, x8], [], m) Q := by
  refine e_aload_n (pc' := 1) (dAt D15 0 rfl) rfl rfl ?_
  exact e_call2 h (dAt D15 1 rfl) (hi0 rfl) rfl G13 (by decide) rfl (Nat.le_of_ble_eq_true rfl) (kV hOx0 rfl rfl) rfl rfl
-- PlaceNets$Script.readTokens.(LPlaceNets$Net;[III)V, from 4
set_option maxRecDepth 20000 in
theorem bk15_4 {d b : Nat} {Q : Option Value → mMem → Prop} {m : mMem} {x0 : Nat} {x1 : Nat} {x2 : Nat} {lx2 : Nat} {x3 : Int32} {x4 : Int32} {x5 : Option Value} {x6 : Option Value} {x7 : Option Value} {x8 : Option Value} (hT : mWT m) (hOx0 : m.1 x0 = some (.inr 1) ∧ x0 ≠ 0) (hOx1 : m.1 x1 = some (.inr 2) ∧ x1 ≠ 0) (hAx2 : m.1 x2 = some (.inl (.int, lx2)) ∧ x2 ≠ 0)
    (h : mEs d 15 b g15 (7, [some (.ref x0), some (.ref x1), some (.ref x2), some (.int x3), some (.int x4), some (.int 0), x6, x7, x8], [], m) Q) :
    mEs d 15 b g15 (4, [some (.ref x0), some (.ref x1), some (.ref x2), some (.int x3), some (.int x4), x5, x6, x7, x8], [], m) Q := by
  refine e_iconst (pc' := 5) (v := 0) (dAt D15 2 rfl) rfl (by decide) ?_
  refine e_istore (pc' := 7) (dAt D15 3 rfl) rfl (Nat.le_of_ble_eq_true rfl) rfl ?_
  exact h
-- PlaceNets$Script.readTokens.(LPlaceNets$Net;[III)V, from 7
set_option maxRecDepth 20000 in
theorem bk15_7 {d b : Nat} {Q : Option Value → mMem → Prop} {m : mMem} {x0 : Nat} {x1 : Nat} {x2 : Nat} {lx2 : Nat} {x3 : Int32} {x4 : Int32} {x5 : Int32} {x6 : Option Value} {x7 : Option Value} {x8 : Option Value} (hT : mWT m) (hOx0 : m.1 x0 = some (.inr 1) ∧ x0 ≠ 0) (hOx1 : m.1 x1 = some (.inr 2) ∧ x1 ≠ 0) (hAx2 : m.1 x2 = some (.inl (.int, lx2)) ∧ x2 ≠ 0)
    (h : (((240 ≤ x5) → (Q none m)) ∧ (¬ (240 ≤ x5) → (mEv d 16 [.ref x0, .int 65, .int 74] m (fun r m' => mEs d 15 b g15 (23, [some (.ref x0), some (.ref x1), some (.ref x2), some (.int x3), some (.int x4), some (.int x5), x6, x7, x8], r.toList ++ [], m') Q))))) :
    mEs d 15 b g15 (7, [some (.ref x0), some (.ref x1), some (.ref x2), some (.int x3), some (.int x4), some (.int x5), x6, x7, x8], [], m) Q := by
  refine e_iload (pc' := 9) (dAt D15 4 rfl) rfl rfl ?_
  refine e_sipush (pc' := 12) (v := 240) (dAt D15 5 rfl) rfl (by decide) ?_
  refine e_icmp_ge (t := 149) (pc' := 15) (dAt D15 6 rfl) ⟨by decide, by decide⟩ rfl (fun c => ?_) (fun c => ?_)
  · replace h := h.1 c
    exact e_return (dAt D15 83 rfl) rfl h
  · replace h := h.2 c
    refine e_aload_n (pc' := 16) (dAt D15 7 rfl) rfl rfl ?_
    refine e_bipush (pc' := 18) (v := 65) (dAt D15 8 rfl) rfl (by decide) ?_
    refine e_bipush (pc' := 20) (v := 74) (dAt D15 9 rfl) rfl (by decide) ?_
    exact e_call2 h (dAt D15 10 rfl) (hi0 rfl) rfl G16 (by decide) rfl (Nat.le_of_ble_eq_true rfl) (kV hOx0 rfl rfl) rfl rfl
-- PlaceNets$Script.readTokens.(LPlaceNets$Net;[III)V, from 23
set_option maxRecDepth 20000 in
theorem bk15_23 {d b : Nat} {Q : Option Value → mMem → Prop} {m : mMem} {x0 : Nat} {x1 : Nat} {x2 : Nat} {lx2 : Nat} {x3 : Int32} {x4 : Int32} {x5 : Int32} {x6 : Option Value} {x7 : Option Value} {x8 : Option Value} {y0 : Int32} (hT : mWT m) (hOx0 : m.1 x0 = some (.inr 1) ∧ x0 ≠ 0) (hOx1 : m.1 x1 = some (.inr 2) ∧ x1 ≠ 0) (hAx2 : m.1 x2 = some (.inl (.int, lx2)) ∧ x2 ≠ 0)
    (h : (((y0 = 0) → (Q none m)) ∧ (¬ (y0 = 0) → (∀ (v_1 : Int32), v_1 = (iF m x0 2) → (mIn v_1 240 = true) ∧ (∀ (v_2 : Int32), v_2 = ((m.2.2.1 (64 * x0 + 1) v_1.toNatClampNeg) - 65) → ∀ (m_3 : mMem), m_3 = (mSetF m x0 2 (.int ((iF m x0 2) + 1))) → mEv d 16 [.ref x0, .int 49, .int 57] m_3 (fun r m' => mEs d 15 b g15 (65, [some (.ref x0), some (.ref x1), some (.ref x2), some (.int x3), some (.int x4), some (.int x5), some (.int v_1), some (.int v_2), some (.int 1)], r.toList ++ [], m') Q)))))) :
    mEs d 15 b g15 (23, [some (.ref x0), some (.ref x1), some (.ref x2), some (.int x3), some (.int x4), some (.int x5), x6, x7, x8], [.int y0], m) Q := by
  refine e_if_eq (t := 149) (pc' := 26) (dAt D15 11 rfl) ⟨by decide, by decide⟩ rfl (fun c => ?_) (fun c => ?_)
  · replace h := h.1 c
    exact e_return (dAt D15 83 rfl) rfl h
  · replace h := h.2 c
    refine e_aload_n (pc' := 27) (dAt D15 12 rfl) rfl rfl ?_
    refine e_getfield (pc' := 30) (dAt D15 13 rfl) rfl rfl hOx0 (hT.int hOx0 2 (by decide)) ?_
    replace h := h _ rfl
    refine e_istore (pc' := 32) (dAt D15 14 rfl) rfl (Nat.le_of_ble_eq_true rfl) rfl ?_
    refine e_aload_n (pc' := 33) (dAt D15 15 rfl) rfl rfl ?_
    refine e_getfield (pc' := 36) (dAt D15 16 rfl) rfl rfl hOx0 (hT.own hOx0 0 rfl) ?_
    refine e_iload (pc' := 38) (dAt D15 17 rfl) rfl rfl ?_
    obtain ⟨f1, h⟩ := h
    refine e_caload (pc' := 39) (dAt D15 18 rfl) rfl (hT.arr hOx0 0 rfl (by decide)).1 (Or.inl (hT.arr hOx0 0 rfl (by decide)).2) f1 rfl ?_
    refine e_bipush (pc' := 41) (v := 65) (dAt D15 19 rfl) rfl (by decide) ?_
    refine e_isub (pc' := 42) (dAt D15 20 rfl) rfl ?_
    replace h := h _ rfl
    refine e_istore (pc' := 44) (dAt D15 21 rfl) rfl (Nat.le_of_ble_eq_true rfl) rfl ?_
    refine e_iconst (pc' := 45) (v := 1) (dAt D15 22 rfl) rfl (by decide) ?_
    refine e_istore (pc' := 47) (dAt D15 23 rfl) rfl (Nat.le_of_ble_eq_true rfl) rfl ?_
    refine e_aload_n (pc' := 48) (dAt D15 24 rfl) rfl rfl ?_
    refine e_dup (pc' := 49) (dAt D15 25 rfl) rfl rfl ?_
    refine e_getfield (pc' := 52) (dAt D15 26 rfl) rfl rfl hOx0 (hT.int hOx0 2 (by decide)) ?_
    refine e_iconst (pc' := 53) (v := 1) (dAt D15 27 rfl) rfl (by decide) ?_
    refine e_iadd (pc' := 54) (dAt D15 28 rfl) rfl ?_
    replace h := h _ rfl
    refine e_putfield (pc' := 57) (dAt D15 29 rfl) rfl rfl hOx0 rfl rfl (fun e => by cases e) ?_
    refine wtF hT hOx0 (by decide) (fun hT_4 => ?_)
    refine e_aload_n (pc' := 58) (dAt D15 30 rfl) rfl rfl ?_
    refine e_bipush (pc' := 60) (v := 49) (dAt D15 31 rfl) rfl (by decide) ?_
    refine e_bipush (pc' := 62) (v := 57) (dAt D15 32 rfl) rfl (by decide) ?_
    exact e_call2 h (dAt D15 33 rfl) (hi0 rfl) rfl G16 (by decide) rfl (Nat.le_of_ble_eq_true rfl) (kV hOx0 rfl rfl) rfl rfl
-- PlaceNets$Script.readTokens.(LPlaceNets$Net;[III)V, from 65
set_option maxRecDepth 20000 in
theorem bk15_65 {d b : Nat} {Q : Option Value → mMem → Prop} {m : mMem} {x0 : Nat} {x1 : Nat} {x2 : Nat} {lx2 : Nat} {x3 : Int32} {x4 : Int32} {x5 : Int32} {x6 : Int32} {x7 : Int32} {x8 : Int32} {y0 : Int32} (hT : mWT m) (hOx0 : m.1 x0 = some (.inr 1) ∧ x0 ≠ 0) (hOx1 : m.1 x1 = some (.inr 2) ∧ x1 ≠ 0) (hAx2 : m.1 x2 = some (.inl (.int, lx2)) ∧ x2 ≠ 0) (hd1 : 1 ≤ d)
    (h : (((y0 = 0) → ((mIn (x3 + x7) lx2 = true) ∧ (((((m.2.2.1 x2 (x3 + x7).toNatClampNeg) + x8) ≤ x4) → ((mIn (x3 + x7) lx2 = true) ∧ ((mIn (x3 + x7) lx2 = true) ∧ (∀ (m_1 : mMem), m_1 = (mSetI m x2 (upd (m.2.2.1 x2) (x3 + x7).toNatClampNeg ((m.2.2.1 x2 (x3 + x7).toNatClampNeg) + x8))) → ∀ (m_3 : mMem), m_3 = (mSetF m_1 x1 0 (.int (if (iF m_1 x1 0) < (x7 + 1) then (x7 + 1) else (iF m_1 x1 0)))) → mEv d 13 [.ref x0] m_3 (fun r m' => mEs d 15 b g15 (143, [some (.ref x0), some (.ref x1), some (.ref x2), some (.int x3), some (.int x4), some (.int x5), some (.int x6), some (.int x7), some (.int x8)], r.toList ++ [], m') Q))))) ∧ (¬ (((m.2.2.1 x2 (x3 + x7).toNatClampNeg) + x8) ≤ x4) → (∀ (m_5 : mMem), m_5 = (mSetF m x0 3 (.int x6)) → Q none m_5))))) ∧ (¬ (y0 = 0) → ((mIn (iF m x0 2) 240 = true) ∧ (∀ (v_7 : Int32), v_7 = ((m.2.2.1 (64 * x0 + 1) (iF m x0 2).toNatClampNeg) - 48) → ∀ (m_8 : mMem), m_8 = (mSetF m x0 2 (.int ((iF m x0 2) + 1))) → (mIn (x3 + x7) lx2 = true) ∧ (((((m_8.2.2.1 x2 (x3 + x7).toNatClampNeg) + v_7) ≤ x4) → ((mIn (x3 + x7) lx2 = true) ∧ ((mIn (x3 + x7) lx2 = true) ∧ (∀ (m_10 : mMem), m_10 = (mSetI m_8 x2 (upd (m_8.2.2.1 x2) (x3 + x7).toNatClampNeg ((m_8.2.2.1 x2 (x3 + x7).toNatClampNeg) + v_7))) → ∀ (m_12 : mMem), m_12 = (mSetF m_10 x1 0 (.int (if (iF m_10 x1 0) < (x7 + 1) then (x7 + 1) else (iF m_10 x1 0)))) → mEv d 13 [.ref x0] m_12 (fun r m' => mEs d 15 b g15 (143, [some (.ref x0), some (.ref x1), some (.ref x2), some (.int x3), some (.int x4), some (.int x5), some (.int x6), some (.int x7), some (.int v_7)], r.toList ++ [], m') Q))))) ∧ (¬ (((m_8.2.2.1 x2 (x3 + x7).toNatClampNeg) + v_7) ≤ x4) → (∀ (m_14 : mMem), m_14 = (mSetF m_8 x0 3 (.int x6)) → Q none m_14)))))))) :
    mEs d 15 b g15 (65, [some (.ref x0), some (.ref x1), some (.ref x2), some (.int x3), some (.int x4), some (.int x5), some (.int x6), some (.int x7), some (.int x8)], [.int y0], m) Q := by
  refine e_if_eq (t := 92) (pc' := 68) (dAt D15 34 rfl) ⟨by decide, by decide⟩ rfl (fun c => ?_) (fun c => ?_)
  · replace h := h.1 c
    refine e_aload_n (pc' := 93) (dAt D15 49 rfl) rfl rfl ?_
    refine e_iload_n (pc' := 94) (dAt D15 50 rfl) rfl rfl ?_
    refine e_iload (pc' := 96) (dAt D15 51 rfl) rfl rfl ?_
    refine e_iadd (pc' := 97) (dAt D15 52 rfl) rfl ?_
    obtain ⟨f1, h⟩ := h
    refine e_iaload (pc' := 98) (dAt D15 53 rfl) rfl hAx2.1 (Or.inl hAx2.2) f1 rfl ?_
    refine e_iload (pc' := 100) (dAt D15 54 rfl) rfl rfl ?_
    refine e_iadd (pc' := 101) (dAt D15 55 rfl) rfl ?_
    refine e_iload (pc' := 103) (dAt D15 56 rfl) rfl rfl ?_
    refine e_icmp_le (t := 113) (pc' := 106) (dAt D15 57 rfl) ⟨by decide, by decide⟩ rfl (fun c => ?_) (fun c => ?_)
    · replace h := h.1 c
      refine e_aload_n (pc' := 114) (dAt D15 62 rfl) rfl rfl ?_
      refine e_iload_n (pc' := 115) (dAt D15 63 rfl) rfl rfl ?_
      refine e_iload (pc' := 117) (dAt D15 64 rfl) rfl rfl ?_
      refine e_iadd (pc' := 118) (dAt D15 65 rfl) rfl ?_
      refine e_dup2 (pc' := 119) (dAt D15 66 rfl) rfl ⟨rfl, rfl⟩ ?_
      obtain ⟨f1, h⟩ := h
      refine e_iaload (pc' := 120) (dAt D15 67 rfl) rfl hAx2.1 (Or.inl hAx2.2) f1 rfl ?_
      refine e_iload (pc' := 122) (dAt D15 68 rfl) rfl rfl ?_
      refine e_iadd (pc' := 123) (dAt D15 69 rfl) rfl ?_
      obtain ⟨f1, h⟩ := h
      replace h := h _ rfl
      refine e_iastore (pc' := 124) (dAt D15 70 rfl) rfl hAx2.1 hAx2.2 f1 (nar_i _) ?_
      refine wtI hT (fun hT_2 => ?_)
      refine e_aload_n (pc' := 125) (dAt D15 71 rfl) rfl rfl ?_
      refine e_aload_n (pc' := 126) (dAt D15 72 rfl) rfl rfl ?_
      refine e_getfield (pc' := 129) (dAt D15 73 rfl) rfl rfl hOx1 (hT_2.int hOx1 0 (by decide)) ?_
      refine e_iload (pc' := 131) (dAt D15 74 rfl) rfl rfl ?_
      refine e_iconst (pc' := 132) (v := 1) (dAt D15 75 rfl) rfl (by decide) ?_
      refine e_iadd (pc' := 133) (dAt D15 76 rfl) rfl ?_
      refine e_max (pc' := 136) (dAt D15 77 rfl) rfl rfl ⟨hd1, Nat.le_of_ble_eq_true rfl⟩ ?_
      replace h := h _ rfl
      refine e_putfield (pc' := 139) (dAt D15 78 rfl) rfl rfl hOx1 rfl rfl (fun e => by cases e) ?_
      refine wtF hT_2 hOx1 (by decide) (fun hT_4 => ?_)
      refine e_aload_n (pc' := 140) (dAt D15 79 rfl) rfl rfl ?_
      exact e_call2 h (dAt D15 80 rfl) (hi0 rfl) rfl G13 (by decide) rfl (Nat.le_of_ble_eq_true rfl) (kV hOx0 rfl rfl) rfl rfl
    · replace h := h.2 c
      refine e_aload_n (pc' := 107) (dAt D15 58 rfl) rfl rfl ?_
      refine e_iload (pc' := 109) (dAt D15 59 rfl) rfl rfl ?_
      replace h := h _ rfl
      refine e_putfield (pc' := 112) (dAt D15 60 rfl) rfl rfl hOx0 rfl rfl (fun e => by cases e) ?_
      refine wtF hT hOx0 (by decide) (fun hT_6 => ?_)
      exact e_return (dAt D15 61 rfl) rfl h
  · replace h := h.2 c
    refine e_aload_n (pc' := 69) (dAt D15 35 rfl) rfl rfl ?_
    refine e_getfield (pc' := 72) (dAt D15 36 rfl) rfl rfl hOx0 (hT.own hOx0 0 rfl) ?_
    refine e_aload_n (pc' := 73) (dAt D15 37 rfl) rfl rfl ?_
    refine e_getfield (pc' := 76) (dAt D15 38 rfl) rfl rfl hOx0 (hT.int hOx0 2 (by decide)) ?_
    obtain ⟨f1, h⟩ := h
    refine e_caload (pc' := 77) (dAt D15 39 rfl) rfl (hT.arr hOx0 0 rfl (by decide)).1 (Or.inl (hT.arr hOx0 0 rfl (by decide)).2) f1 rfl ?_
    refine e_bipush (pc' := 79) (v := 48) (dAt D15 40 rfl) rfl (by decide) ?_
    refine e_isub (pc' := 80) (dAt D15 41 rfl) rfl ?_
    replace h := h _ rfl
    refine e_istore (pc' := 82) (dAt D15 42 rfl) rfl (Nat.le_of_ble_eq_true rfl) rfl ?_
    refine e_aload_n (pc' := 83) (dAt D15 43 rfl) rfl rfl ?_
    refine e_dup (pc' := 84) (dAt D15 44 rfl) rfl rfl ?_
    refine e_getfield (pc' := 87) (dAt D15 45 rfl) rfl rfl hOx0 (hT.int hOx0 2 (by decide)) ?_
    refine e_iconst (pc' := 88) (v := 1) (dAt D15 46 rfl) rfl (by decide) ?_
    refine e_iadd (pc' := 89) (dAt D15 47 rfl) rfl ?_
    replace h := h _ rfl
    refine e_putfield (pc' := 92) (dAt D15 48 rfl) rfl rfl hOx0 rfl rfl (fun e => by cases e) ?_
    refine wtF hT hOx0 (by decide) (fun hT_9 => ?_)
    refine e_aload_n (pc' := 93) (dAt D15 49 rfl) rfl rfl ?_
    refine e_iload_n (pc' := 94) (dAt D15 50 rfl) rfl rfl ?_
    refine e_iload (pc' := 96) (dAt D15 51 rfl) rfl rfl ?_
    refine e_iadd (pc' := 97) (dAt D15 52 rfl) rfl ?_
    obtain ⟨f1, h⟩ := h
    refine e_iaload (pc' := 98) (dAt D15 53 rfl) rfl hAx2.1 (Or.inl hAx2.2) f1 rfl ?_
    refine e_iload (pc' := 100) (dAt D15 54 rfl) rfl rfl ?_
    refine e_iadd (pc' := 101) (dAt D15 55 rfl) rfl ?_
    refine e_iload (pc' := 103) (dAt D15 56 rfl) rfl rfl ?_
    refine e_icmp_le (t := 113) (pc' := 106) (dAt D15 57 rfl) ⟨by decide, by decide⟩ rfl (fun c => ?_) (fun c => ?_)
    · replace h := h.1 c
      refine e_aload_n (pc' := 114) (dAt D15 62 rfl) rfl rfl ?_
      refine e_iload_n (pc' := 115) (dAt D15 63 rfl) rfl rfl ?_
      refine e_iload (pc' := 117) (dAt D15 64 rfl) rfl rfl ?_
      refine e_iadd (pc' := 118) (dAt D15 65 rfl) rfl ?_
      refine e_dup2 (pc' := 119) (dAt D15 66 rfl) rfl ⟨rfl, rfl⟩ ?_
      obtain ⟨f1, h⟩ := h
      refine e_iaload (pc' := 120) (dAt D15 67 rfl) rfl hAx2.1 (Or.inl hAx2.2) f1 rfl ?_
      refine e_iload (pc' := 122) (dAt D15 68 rfl) rfl rfl ?_
      refine e_iadd (pc' := 123) (dAt D15 69 rfl) rfl ?_
      obtain ⟨f1, h⟩ := h
      replace h := h _ rfl
      refine e_iastore (pc' := 124) (dAt D15 70 rfl) rfl hAx2.1 hAx2.2 f1 (nar_i _) ?_
      refine wtI hT_9 (fun hT_11 => ?_)
      refine e_aload_n (pc' := 125) (dAt D15 71 rfl) rfl rfl ?_
      refine e_aload_n (pc' := 126) (dAt D15 72 rfl) rfl rfl ?_
      refine e_getfield (pc' := 129) (dAt D15 73 rfl) rfl rfl hOx1 (hT_11.int hOx1 0 (by decide)) ?_
      refine e_iload (pc' := 131) (dAt D15 74 rfl) rfl rfl ?_
      refine e_iconst (pc' := 132) (v := 1) (dAt D15 75 rfl) rfl (by decide) ?_
      refine e_iadd (pc' := 133) (dAt D15 76 rfl) rfl ?_
      refine e_max (pc' := 136) (dAt D15 77 rfl) rfl rfl ⟨hd1, Nat.le_of_ble_eq_true rfl⟩ ?_
      replace h := h _ rfl
      refine e_putfield (pc' := 139) (dAt D15 78 rfl) rfl rfl hOx1 rfl rfl (fun e => by cases e) ?_
      refine wtF hT_11 hOx1 (by decide) (fun hT_13 => ?_)
      refine e_aload_n (pc' := 140) (dAt D15 79 rfl) rfl rfl ?_
      exact e_call2 h (dAt D15 80 rfl) (hi0 rfl) rfl G13 (by decide) rfl (Nat.le_of_ble_eq_true rfl) (kV hOx0 rfl rfl) rfl rfl
    · replace h := h.2 c
      refine e_aload_n (pc' := 107) (dAt D15 58 rfl) rfl rfl ?_
      refine e_iload (pc' := 109) (dAt D15 59 rfl) rfl rfl ?_
      replace h := h _ rfl
      refine e_putfield (pc' := 112) (dAt D15 60 rfl) rfl rfl hOx0 rfl rfl (fun e => by cases e) ?_
      refine wtF hT_9 hOx0 (by decide) (fun hT_15 => ?_)
      exact e_return (dAt D15 61 rfl) rfl h
-- PlaceNets$Script.readTokens.(LPlaceNets$Net;[III)V, from 143
set_option maxRecDepth 20000 in
theorem bk15_143 {d b : Nat} {Q : Option Value → mMem → Prop} {m : mMem} {x0 : Nat} {x1 : Nat} {x2 : Nat} {lx2 : Nat} {x3 : Int32} {x4 : Int32} {x5 : Int32} {x6 : Int32} {x7 : Int32} {x8 : Int32} (hT : mWT m) (hOx0 : m.1 x0 = some (.inr 1) ∧ x0 ≠ 0) (hOx1 : m.1 x1 = some (.inr 2) ∧ x1 ≠ 0) (hAx2 : m.1 x2 = some (.inl (.int, lx2)) ∧ x2 ≠ 0)
    (h : ∀ (v_1 : Int32), v_1 = (x5 + 1) → mEs d 15 b g15 (7, [some (.ref x0), some (.ref x1), some (.ref x2), some (.int x3), some (.int x4), some (.int v_1), some (.int x6), some (.int x7), some (.int x8)], [], m) Q) :
    mEs d 15 b g15 (143, [some (.ref x0), some (.ref x1), some (.ref x2), some (.int x3), some (.int x4), some (.int x5), some (.int x6), some (.int x7), some (.int x8)], [], m) Q := by
  replace h := h _ rfl
  refine e_iinc (pc' := 146) (dAt D15 81 rfl) rfl rfl (Nat.le_of_ble_eq_true rfl) (congrArg (_ + ·) (show Int32.ofInt (1) = (1 : Int32) by decide)) rfl ?_
  refine e_goto (t := 7) (dAt D15 82 rfl) ⟨by decide, by decide⟩ ?_
  exact h
-- PlaceNets$Script.isBetween.(CC)Z, from 0
set_option maxRecDepth 20000 in
theorem bk16_0 {d b : Nat} {Q : Option Value → mMem → Prop} {m : mMem} {x0 : Nat} {x1 : Int32} {x2 : Int32} (hT : mWT m) (hOx0 : m.1 x0 = some (.inr 1) ∧ x0 ≠ 0)
    (h : ((((iF m x0 0) ≤ (iF m x0 2)) → (Q (some (.int 0)) m)) ∧ (¬ ((iF m x0 0) ≤ (iF m x0 2)) → ((mIn (iF m x0 2) 240 = true) ∧ ((((m.2.2.1 (64 * x0 + 1) (iF m x0 2).toNatClampNeg) < x1) → (Q (some (.int 0)) m)) ∧ (¬ ((m.2.2.1 (64 * x0 + 1) (iF m x0 2).toNatClampNeg) < x1) → ((mIn (iF m x0 2) 240 = true) ∧ (((x2 < (m.2.2.1 (64 * x0 + 1) (iF m x0 2).toNatClampNeg)) → (Q (some (.int 0)) m)) ∧ (¬ (x2 < (m.2.2.1 (64 * x0 + 1) (iF m x0 2).toNatClampNeg)) → (Q (some (.int 1)) m)))))))))) :
    mEs d 16 b g16 (0, [some (.ref x0), some (.int x1), some (.int x2)], [], m) Q := by
  refine e_aload_n (pc' := 1) (dAt D16 0 rfl) rfl rfl ?_
  refine e_getfield (pc' := 4) (dAt D16 1 rfl) rfl rfl hOx0 (hT.int hOx0 2 (by decide)) ?_
  refine e_aload_n (pc' := 5) (dAt D16 2 rfl) rfl rfl ?_
  refine e_getfield (pc' := 8) (dAt D16 3 rfl) rfl rfl hOx0 (hT.int hOx0 0 (by decide)) ?_
  refine e_icmp_ge (t := 41) (pc' := 11) (dAt D16 4 rfl) ⟨by decide, by decide⟩ rfl (fun c => ?_) (fun c => ?_)
  · replace h := h.1 c
    refine e_iconst (pc' := 42) (v := 0) (dAt D16 21 rfl) rfl (by decide) ?_
    exact e_ireturn (dAt D16 22 rfl) rfl ⟨rfl, fun e => by cases e⟩ h
  · replace h := h.2 c
    refine e_aload_n (pc' := 12) (dAt D16 5 rfl) rfl rfl ?_
    refine e_getfield (pc' := 15) (dAt D16 6 rfl) rfl rfl hOx0 (hT.own hOx0 0 rfl) ?_
    refine e_aload_n (pc' := 16) (dAt D16 7 rfl) rfl rfl ?_
    refine e_getfield (pc' := 19) (dAt D16 8 rfl) rfl rfl hOx0 (hT.int hOx0 2 (by decide)) ?_
    obtain ⟨f1, h⟩ := h
    refine e_caload (pc' := 20) (dAt D16 9 rfl) rfl (hT.arr hOx0 0 rfl (by decide)).1 (Or.inl (hT.arr hOx0 0 rfl (by decide)).2) f1 rfl ?_
    refine e_iload_n (pc' := 21) (dAt D16 10 rfl) rfl rfl ?_
    refine e_icmp_lt (t := 41) (pc' := 24) (dAt D16 11 rfl) ⟨by decide, by decide⟩ rfl (fun c => ?_) (fun c => ?_)
    · replace h := h.1 c
      refine e_iconst (pc' := 42) (v := 0) (dAt D16 21 rfl) rfl (by decide) ?_
      exact e_ireturn (dAt D16 22 rfl) rfl ⟨rfl, fun e => by cases e⟩ h
    · replace h := h.2 c
      refine e_aload_n (pc' := 25) (dAt D16 12 rfl) rfl rfl ?_
      refine e_getfield (pc' := 28) (dAt D16 13 rfl) rfl rfl hOx0 (hT.own hOx0 0 rfl) ?_
      refine e_aload_n (pc' := 29) (dAt D16 14 rfl) rfl rfl ?_
      refine e_getfield (pc' := 32) (dAt D16 15 rfl) rfl rfl hOx0 (hT.int hOx0 2 (by decide)) ?_
      obtain ⟨f1, h⟩ := h
      refine e_caload (pc' := 33) (dAt D16 16 rfl) rfl (hT.arr hOx0 0 rfl (by decide)).1 (Or.inl (hT.arr hOx0 0 rfl (by decide)).2) f1 rfl ?_
      refine e_iload_n (pc' := 34) (dAt D16 17 rfl) rfl rfl ?_
      refine e_icmp_gt (t := 41) (pc' := 37) (dAt D16 18 rfl) ⟨by decide, by decide⟩ rfl (fun c => ?_) (fun c => ?_)
      · replace h := h.1 c
        refine e_iconst (pc' := 42) (v := 0) (dAt D16 21 rfl) rfl (by decide) ?_
        exact e_ireturn (dAt D16 22 rfl) rfl ⟨rfl, fun e => by cases e⟩ h
      · replace h := h.2 c
        refine e_iconst (pc' := 38) (v := 1) (dAt D16 19 rfl) rfl (by decide) ?_
        refine e_goto (t := 42) (dAt D16 20 rfl) ⟨by decide, by decide⟩ ?_
        exact e_ireturn (dAt D16 22 rfl) rfl ⟨rfl, fun e => by cases e⟩ h
-- PlaceNets$Script.readTransition.(LPlaceNets$Net;)V, from 0
set_option maxRecDepth 20000 in
theorem bk17_0 {d b : Nat} {Q : Option Value → mMem → Prop} {m : mMem} {x0 : Nat} {x1 : Nat} {x2 : Option Value} (hT : mWT m) (hOx0 : m.1 x0 = some (.inr 1) ∧ x0 ≠ 0) (hOx1 : m.1 x1 = some (.inr 2) ∧ x1 ≠ 0)
    (h : ∀ (v_1 : Int32), v_1 = ((iF m x1 1) * 10) → mEv d 15 [.ref x0, .ref x1, .ref (64 * x1 + 2), .int v_1, .int 9] m (fun r m' => mEs d 17 b g17 (20, [some (.ref x0), some (.ref x1), some (.int v_1)], r.toList ++ [], m') Q)) :
    mEs d 17 b g17 (0, [some (.ref x0), some (.ref x1), x2], [], m) Q := by
  refine e_aload_n (pc' := 1) (dAt D17 0 rfl) rfl rfl ?_
  refine e_getfield (pc' := 4) (dAt D17 1 rfl) rfl rfl hOx1 (hT.int hOx1 1 (by decide)) ?_
  refine e_bipush (pc' := 6) (v := 10) (dAt D17 2 rfl) rfl (by decide) ?_
  refine e_imul (pc' := 7) (dAt D17 3 rfl) rfl ?_
  replace h := h _ rfl
  refine e_istore_n (pc' := 8) (dAt D17 4 rfl) rfl (Nat.le_of_ble_eq_true rfl) rfl ?_
  refine e_aload_n (pc' := 9) (dAt D17 5 rfl) rfl rfl ?_
  refine e_aload_n (pc' := 10) (dAt D17 6 rfl) rfl rfl ?_
  refine e_aload_n (pc' := 11) (dAt D17 7 rfl) rfl rfl ?_
  refine e_getfield (pc' := 14) (dAt D17 8 rfl) rfl rfl hOx1 (hT.own hOx1 1 rfl) ?_
  refine e_iload_n (pc' := 15) (dAt D17 9 rfl) rfl rfl ?_
  refine e_bipush (pc' := 17) (v := 9) (dAt D17 10 rfl) rfl (by decide) ?_
  exact e_call2 h (dAt D17 11 rfl) (hi0 rfl) rfl G15 (by decide) rfl (Nat.le_of_ble_eq_true rfl) (kV hOx0 rfl rfl) rfl rfl
-- PlaceNets$Script.readTransition.(LPlaceNets$Net;)V, from 20
set_option maxRecDepth 20000 in
theorem bk17_20 {d b : Nat} {Q : Option Value → mMem → Prop} {m : mMem} {x0 : Nat} {x1 : Nat} {x2 : Int32} (hT : mWT m) (hOx0 : m.1 x0 = some (.inr 1) ∧ x0 ≠ 0) (hOx1 : m.1 x1 = some (.inr 2) ∧ x1 ≠ 0)
    (h : ((((iF m x0 3) = ((-1))) → (mEv d 14 [.ref x0, .int 62] m (fun r m' => mEs d 17 b g17 (35, [some (.ref x0), some (.ref x1), some (.int x2)], r.toList ++ [], m') Q))) ∧ (¬ ((iF m x0 3) = ((-1))) → (Q none m)))) :
    mEs d 17 b g17 (20, [some (.ref x0), some (.ref x1), some (.int x2)], [], m) Q := by
  refine e_aload_n (pc' := 21) (dAt D17 12 rfl) rfl rfl ?_
  refine e_getfield (pc' := 24) (dAt D17 13 rfl) rfl rfl hOx0 (hT.int hOx0 3 (by decide)) ?_
  refine e_iconst (pc' := 25) (v := (-1)) (dAt D17 14 rfl) rfl (by decide) ?_
  refine e_icmp_eq (t := 29) (pc' := 28) (dAt D17 15 rfl) ⟨by decide, by decide⟩ rfl (fun c => ?_) (fun c => ?_)
  · replace h := h.1 c
    refine e_aload_n (pc' := 30) (dAt D17 17 rfl) rfl rfl ?_
    refine e_bipush (pc' := 32) (v := 62) (dAt D17 18 rfl) rfl (by decide) ?_
    exact e_call2 h (dAt D17 19 rfl) (hi0 rfl) rfl G14 (by decide) rfl (Nat.le_of_ble_eq_true rfl) (kV hOx0 rfl rfl) rfl rfl
  · replace h := h.2 c
    exact e_return (dAt D17 16 rfl) rfl h
-- PlaceNets$Script.readTransition.(LPlaceNets$Net;)V, from 35
set_option maxRecDepth 20000 in
theorem bk17_35 {d b : Nat} {Q : Option Value → mMem → Prop} {m : mMem} {x0 : Nat} {x1 : Nat} {x2 : Int32} {y0 : Int32} (hT : mWT m) (hOx0 : m.1 x0 = some (.inr 1) ∧ x0 ≠ 0) (hOx1 : m.1 x1 = some (.inr 2) ∧ x1 ≠ 0)
    (h : (((y0 = 0) → (∀ (m_1 : mMem), m_1 = (mSetF m x0 3 (.int (iF m x0 2))) → Q none m_1)) ∧ (¬ (y0 = 0) → ((((iF m x1 1) < 10) → (∀ (m_3 : mMem), m_3 = (mSetF m x0 2 (.int ((iF m x0 2) + 1))) → ∀ (m_5 : mMem), m_5 = (mSetF m_3 x1 1 (.int ((iF m_3 x1 1) + 1))) → mEv d 15 [.ref x0, .ref x1, .ref (64 * x1 + 3), .int x2, .int 9] m_5 (fun r m' => mEs d 17 b g17 (88, [some (.ref x0), some (.ref x1), some (.int x2)], r.toList ++ [], m') Q))) ∧ (¬ ((iF m x1 1) < 10) → (∀ (m_7 : mMem), m_7 = (mSetF m x0 3 (.int (iF m x0 2))) → Q none m_7)))))) :
    mEs d 17 b g17 (35, [some (.ref x0), some (.ref x1), some (.int x2)], [.int y0], m) Q := by
  refine e_if_eq (t := 47) (pc' := 38) (dAt D17 20 rfl) ⟨by decide, by decide⟩ rfl (fun c => ?_) (fun c => ?_)
  · replace h := h.1 c
    refine e_aload_n (pc' := 48) (dAt D17 25 rfl) rfl rfl ?_
    refine e_aload_n (pc' := 49) (dAt D17 26 rfl) rfl rfl ?_
    refine e_getfield (pc' := 52) (dAt D17 27 rfl) rfl rfl hOx0 (hT.int hOx0 2 (by decide)) ?_
    replace h := h _ rfl
    refine e_putfield (pc' := 55) (dAt D17 28 rfl) rfl rfl hOx0 rfl rfl (fun e => by cases e) ?_
    refine wtF hT hOx0 (by decide) (fun hT_2 => ?_)
    exact e_return (dAt D17 29 rfl) rfl h
  · replace h := h.2 c
    refine e_aload_n (pc' := 39) (dAt D17 21 rfl) rfl rfl ?_
    refine e_getfield (pc' := 42) (dAt D17 22 rfl) rfl rfl hOx1 (hT.int hOx1 1 (by decide)) ?_
    refine e_bipush (pc' := 44) (v := 10) (dAt D17 23 rfl) rfl (by decide) ?_
    refine e_icmp_lt (t := 56) (pc' := 47) (dAt D17 24 rfl) ⟨by decide, by decide⟩ rfl (fun c => ?_) (fun c => ?_)
    · replace h := h.1 c
      refine e_aload_n (pc' := 57) (dAt D17 30 rfl) rfl rfl ?_
      refine e_dup (pc' := 58) (dAt D17 31 rfl) rfl rfl ?_
      refine e_getfield (pc' := 61) (dAt D17 32 rfl) rfl rfl hOx0 (hT.int hOx0 2 (by decide)) ?_
      refine e_iconst (pc' := 62) (v := 1) (dAt D17 33 rfl) rfl (by decide) ?_
      refine e_iadd (pc' := 63) (dAt D17 34 rfl) rfl ?_
      replace h := h _ rfl
      refine e_putfield (pc' := 66) (dAt D17 35 rfl) rfl rfl hOx0 rfl rfl (fun e => by cases e) ?_
      refine wtF hT hOx0 (by decide) (fun hT_4 => ?_)
      refine e_aload_n (pc' := 67) (dAt D17 36 rfl) rfl rfl ?_
      refine e_dup (pc' := 68) (dAt D17 37 rfl) rfl rfl ?_
      refine e_getfield (pc' := 71) (dAt D17 38 rfl) rfl rfl hOx1 (hT_4.int hOx1 1 (by decide)) ?_
      refine e_iconst (pc' := 72) (v := 1) (dAt D17 39 rfl) rfl (by decide) ?_
      refine e_iadd (pc' := 73) (dAt D17 40 rfl) rfl ?_
      replace h := h _ rfl
      refine e_putfield (pc' := 76) (dAt D17 41 rfl) rfl rfl hOx1 rfl rfl (fun e => by cases e) ?_
      refine wtF hT_4 hOx1 (by decide) (fun hT_6 => ?_)
      refine e_aload_n (pc' := 77) (dAt D17 42 rfl) rfl rfl ?_
      refine e_aload_n (pc' := 78) (dAt D17 43 rfl) rfl rfl ?_
      refine e_aload_n (pc' := 79) (dAt D17 44 rfl) rfl rfl ?_
      refine e_getfield (pc' := 82) (dAt D17 45 rfl) rfl rfl hOx1 (hT_6.own hOx1 2 rfl) ?_
      refine e_iload_n (pc' := 83) (dAt D17 46 rfl) rfl rfl ?_
      refine e_bipush (pc' := 85) (v := 9) (dAt D17 47 rfl) rfl (by decide) ?_
      exact e_call2 h (dAt D17 48 rfl) (hi0 rfl) rfl G15 (by decide) rfl (Nat.le_of_ble_eq_true rfl) (kV hOx0 rfl rfl) rfl rfl
    · replace h := h.2 c
      refine e_aload_n (pc' := 48) (dAt D17 25 rfl) rfl rfl ?_
      refine e_aload_n (pc' := 49) (dAt D17 26 rfl) rfl rfl ?_
      refine e_getfield (pc' := 52) (dAt D17 27 rfl) rfl rfl hOx0 (hT.int hOx0 2 (by decide)) ?_
      replace h := h _ rfl
      refine e_putfield (pc' := 55) (dAt D17 28 rfl) rfl rfl hOx0 rfl rfl (fun e => by cases e) ?_
      refine wtF hT hOx0 (by decide) (fun hT_8 => ?_)
      exact e_return (dAt D17 29 rfl) rfl h
-- PlaceNets$Script.readTransition.(LPlaceNets$Net;)V, from 88
set_option maxRecDepth 20000 in
theorem bk17_88 {d b : Nat} {Q : Option Value → mMem → Prop} {m : mMem} {x0 : Nat} {x1 : Nat} {x2 : Int32} (hT : mWT m) (hOx0 : m.1 x0 = some (.inr 1) ∧ x0 ≠ 0) (hOx1 : m.1 x1 = some (.inr 2) ∧ x1 ≠ 0)
    (h : Q none m) :
    mEs d 17 b g17 (88, [some (.ref x0), some (.ref x1), some (.int x2)], [], m) Q := by
  exact e_return (dAt D17 49 rfl) rfl h
