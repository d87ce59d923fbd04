abbrev g99 : mG := (⟨"PlaceNets$Sets", "build", "(LPlaceNets$Net;)V"⟩, prog_7_method_2_code, 3, none, 7, 2, 6, false)
theorem G99 : mGm[99]? = some g99 := rfl
def tb99 : List (Nat × Instr × Nat) := [(0, .aload_n 0, 1), (1, .aload_n 1, 1), (2, .getfield 24, 3), (5, .putfield 30, 3), (8, .iconst (0), 1), (9, .istore_n 2, 1), (10, .iload_n 2, 1), (11, .aload_n 0, 1), (12, .getfield 30, 3), (15, .if_icmp .ge (31), 3), (18, .aload_n 0, 1), (19, .getfield 18, 3), (22, .iload_n 2, 1), (23, .aload_n 1, 1), (24, .iload_n 2, 1), (25, .invokevirtual 31, 3), (28, .iastore, 1), (29, .aload_n 0, 1), (30, .getfield 21, 3), (33, .iload_n 2, 1), (34, .aload_n 1, 1), (35, .iload_n 2, 1), (36, .invokevirtual 34, 3), (39, .iastore, 1), (40, .iinc 2 (1), 3), (43, .goto (-33), 3), (46, .aload_n 0, 1), (47, .aload_n 0, 1), (48, .aload_n 0, 1), (49, .getfield 11, 3), (52, .aload_n 0, 1), (53, .getfield 21, 3), (56, .aload_n 0, 1), (57, .getfield 18, 3), (60, .aload_n 1, 1), (61, .getfield 36, 3), (64, .invokevirtual 39, 3), (67, .putfield 43, 3), (70, .aload_n 0, 1), (71, .aload_n 0, 1), (72, .aload_n 0, 1), (73, .getfield 15, 3), (76, .aload_n 0, 1), (77, .getfield 18, 3), (80, .aload_n 0, 1), (81, .getfield 21, 3), (84, .aload_n 1, 1), (85, .getfield 36, 3), (88, .invokevirtual 39, 3), (91, .putfield 46, 3), (94, .return_, 1)]
set_option maxRecDepth 20000 in
theorem D99 : tb99.all (dOk prog_7_method_2_code) = true := by decide +kernel
abbrev g103 : mG := (⟨"PlaceNets$Sets", "collect", "([I[I[II)I"⟩, prog_7_method_3_code, 7, (some .int), 7, 5, 6, false)
theorem G103 : mGm[103]? = some g103 := rfl
def tb103 : List (Nat × Instr × Nat) := [(0, .iconst (0), 1), (1, .istore 5, 2), (3, .iconst (1), 1), (4, .istore 6, 2), (6, .iload 6, 2), (8, .iconst (1), 1), (9, .iload 4, 2), (11, .ishl, 1), (12, .if_icmp .ge (48), 3), (15, .iload 5, 2), (17, .sipush (252), 3), (20, .if_icmp .ge (34), 3), (23, .aload_n 0, 1), (24, .iload 6, 2), (26, .aload_n 2, 1), (27, .aload_n 3, 1), (28, .invokevirtual 49, 3), (31, .ifCond .eq (23), 3), (34, .aload_n 1, 1), (35, .iload 5, 2), (37, .iload 6, 2), (39, .invokestatic 53, 3), (42, .ifCond .ne (12), 3), (45, .aload_n 1, 1), (46, .iload 5, 2), (48, .iload 6, 2), (50, .iastore, 1), (51, .iinc 5 (1), 3), (54, .iinc 6 (1), 3), (57, .goto (-51), 3), (60, .iload 5, 2), (62, .ireturn, 1)]
set_option maxRecDepth 20000 in
theorem D103 : tb103.all (dOk prog_7_method_3_code) = true := by decide +kernel
abbrev g104 : mG := (⟨"PlaceNets$Sets", "isClosed", "(I[I[I)Z"⟩, prog_7_method_4_code, 5, (some .boolean), 7, 4, 6, false)
theorem G104 : mGm[104]? = some g104 := rfl
def tb104 : List (Nat × Instr × Nat) := [(0, .iconst (0), 1), (1, .istore 4, 2), (3, .iload 4, 2), (5, .aload_n 0, 1), (6, .getfield 30, 3), (9, .if_icmp .ge (29), 3), (12, .aload_n 2, 1), (13, .iload 4, 2), (15, .iaload, 1), (16, .iload_n 1, 1), (17, .iand, 1), (18, .ifCond .eq (14), 3), (21, .aload_n 3, 1), (22, .iload 4, 2), (24, .iaload, 1), (25, .iload_n 1, 1), (26, .iand, 1), (27, .ifCond .ne (5), 3), (30, .iconst (0), 1), (31, .ireturn, 1), (32, .iinc 4 (1), 3), (35, .goto (-32), 3), (38, .iconst (1), 1), (39, .ireturn, 1)]
set_option maxRecDepth 20000 in
theorem D104 : tb104.all (dOk prog_7_method_4_code) = true := by decide +kernel
abbrev g105 : mG := (⟨"PlaceNets$Sets", "holdsOneOf", "([III)Z"⟩, prog_7_method_5_code, 4, (some .boolean), 7, 3, 99, false)
theorem G105 : mGm[105]? = some g105 := rfl
def tb105 : List (Nat × Instr × Nat) := [(0, .iconst (0), 1), (1, .istore_n 3, 1), (2, .iload_n 3, 1), (3, .iload_n 1, 1), (4, .if_icmp .ge (21), 3), (7, .aload_n 0, 1), (8, .iload_n 3, 1), (9, .iaload, 1), (10, .iload_n 2, 1), (11, .iconst (-1), 1), (12, .ixor, 1), (13, .iand, 1), (14, .ifCond .ne (5), 3), (17, .iconst (1), 1), (18, .ireturn, 1), (19, .iinc 3 (1), 3), (22, .goto (-20), 3), (25, .iconst (0), 1), (26, .ireturn, 1)]
set_option maxRecDepth 20000 in
theorem D105 : tb105.all (dOk prog_7_method_5_code) = true := by decide +kernel
abbrev g106 : mG := (⟨"PlaceNets$Sets", "countOf", "(I)I"⟩, prog_7_method_6_code, 2, (some .int), 7, 2, 6, false)
theorem G106 : mGm[106]? = some g106 := rfl
def tb106 : List (Nat × Instr × Nat) := [(0, .iload_n 1, 1), (1, .ifCond .ne (10), 3), (4, .aload_n 0, 1), (5, .getfield 43, 3), (8, .goto (7), 3), (11, .aload_n 0, 1), (12, .getfield 46, 3), (15, .ireturn, 1)]
set_option maxRecDepth 20000 in
theorem D106 : tb106.all (dOk prog_7_method_6_code) = true := by decide +kernel
abbrev g107 : mG := (⟨"PlaceNets$Sets", "tell", "(II)I"⟩, prog_7_method_7_code, 3, (some .int), 7, 3, 6, false)
theorem G107 : mGm[107]? = some g107 := rfl
def tb107 : List (Nat × Instr × Nat) := [(0, .iload_n 2, 1), (1, .ifCond .lt (12), 3), (4, .iload_n 2, 1), (5, .aload_n 0, 1), (6, .iload_n 1, 1), (7, .invokevirtual 57, 3), (10, .if_icmp .lt (5), 3), (13, .iconst (-1), 1), (14, .ireturn, 1), (15, .iload_n 1, 1), (16, .ifCond .ne (12), 3), (19, .aload_n 0, 1), (20, .getfield 11, 3), (23, .iload_n 2, 1), (24, .iaload, 1), (25, .goto (9), 3), (28, .aload_n 0, 1), (29, .getfield 15, 3), (32, .iload_n 2, 1), (33, .iaload, 1), (34, .ireturn, 1)]
set_option maxRecDepth 20000 in
theorem D107 : tb107.all (dOk prog_7_method_7_code) = true := by decide +kernel
abbrev g109 : mG := (⟨"PlaceNets$Sets", "greatestTrap", "(I)I"⟩, prog_7_method_8_code, 5, (some .int), 7, 2, 6, false)
theorem G109 : mGm[109]? = some g109 := rfl
def tb109 : List (Nat × Instr × Nat) := [(0, .iload_n 1, 1), (1, .istore_n 2, 1), (2, .iconst (0), 1), (3, .istore_n 3, 1), (4, .iload_n 3, 1), (5, .bipush (10), 2), (7, .if_icmp .gt (51), 3), (10, .iconst (0), 1), (11, .istore 4, 2), (13, .iload 4, 2), (15, .aload_n 0, 1), (16, .getfield 30, 3), (19, .if_icmp .ge (33), 3), (22, .aload_n 0, 1), (23, .getfield 21, 3), (26, .iload 4, 2), (28, .iaload, 1), (29, .iload_n 2, 1), (30, .iand, 1), (31, .ifCond .ne (15), 3), (34, .iload_n 2, 1), (35, .aload_n 0, 1), (36, .getfield 18, 3), (39, .iload 4, 2), (41, .iaload, 1), (42, .iconst (-1), 1), (43, .ixor, 1), (44, .iand, 1), (45, .istore_n 2, 1), (46, .iinc 4 (1), 3), (49, .goto (-36), 3), (52, .iinc 3 (1), 3), (55, .goto (-51), 3), (58, .iload_n 2, 1), (59, .ireturn, 1)]
set_option maxRecDepth 20000 in
theorem D109 : tb109.all (dOk prog_7_method_8_code) = true := by decide +kernel
abbrev g118 : mG := (⟨"PlaceNets$Sets", "allMarked", "([I)Z"⟩, prog_7_method_9_code, 3, (some .boolean), 7, 2, 6, false)
theorem G118 : mGm[118]? = some g118 := rfl
def tb118 : List (Nat × Instr × Nat) := [(0, .iconst (0), 1), (1, .istore_n 2, 1), (2, .iload_n 2, 1), (3, .aload_n 0, 1), (4, .getfield 43, 3), (7, .if_icmp .ge (28), 3), (10, .aload_n 0, 1), (11, .aload_n 0, 1), (12, .getfield 11, 3), (15, .iload_n 2, 1), (16, .iaload, 1), (17, .invokevirtual 60, 3), (20, .aload_n 1, 1), (21, .invokestatic 63, 3), (24, .ifCond .ne (5), 3), (27, .iconst (0), 1), (28, .ireturn, 1), (29, .iinc 2 (1), 3), (32, .goto (-30), 3), (35, .iconst (1), 1), (36, .ireturn, 1)]
set_option maxRecDepth 20000 in
theorem D118 : tb118.all (dOk prog_7_method_9_code) = true := by decide +kernel
abbrev g119 : mG := (⟨"PlaceNets$Sets", "isMarked", "(I[I)Z"⟩, prog_7_method_10_code, 3, (some .boolean), 7, 2, 99, false)
theorem G119 : mGm[119]? = some g119 := rfl
def tb119 : List (Nat × Instr × Nat) := [(0, .iconst (0), 1), (1, .istore_n 2, 1), (2, .iload_n 2, 1), (3, .bipush (10), 2), (5, .if_icmp .ge (26), 3), (8, .iload_n 0, 1), (9, .iload_n 2, 1), (10, .ishr, 1), (11, .iconst (1), 1), (12, .iand, 1), (13, .iconst (1), 1), (14, .if_icmp .ne (11), 3), (17, .aload_n 1, 1), (18, .iload_n 2, 1), (19, .iaload, 1), (20, .ifCond .le (5), 3), (23, .iconst (1), 1), (24, .ireturn, 1), (25, .iinc 2 (1), 3), (28, .goto (-26), 3), (31, .iconst (0), 1), (32, .ireturn, 1)]
set_option maxRecDepth 20000 in
theorem D119 : tb119.all (dOk prog_7_method_10_code) = true := by decide +kernel
-- PlaceNets$Sets.build.(LPlaceNets$Net;)V, from 0
set_option maxRecDepth 20000 in
theorem bk99_0 {d b : Nat} {Q : Option Value → mMem → Prop} {m : mMem} {x0 : Nat} {x1 : Nat} {x2 : Option Value} (hT : mWT m) (hOx0 : m.1 x0 = some (.inr 6) ∧ x0 ≠ 0) (hOx1 : m.1 x1 = some (.inr 2) ∧ x1 ≠ 0)
    (h : ∀ (m_1 : mMem), m_1 = (mSetF m x0 7 (.int (iF m x1 1))) → mEs d 99 b g99 (10, [some (.ref x0), some (.ref x1), some (.int 0)], [], m_1) Q) :
    mEs d 99 b g99 (0, [some (.ref x0), some (.ref x1), x2], [], m) Q := by
  refine e_aload_n (pc' := 1) (dAt D99 0 rfl) rfl rfl ?_
  refine e_aload_n (pc' := 2) (dAt D99 1 rfl) rfl rfl ?_
  refine e_getfield (pc' := 5) (dAt D99 2 rfl) rfl rfl hOx1 (hT.int hOx1 1 (by decide)) ?_
  replace h := h _ rfl
  refine e_putfield (pc' := 8) (dAt D99 3 rfl) rfl rfl hOx0 rfl rfl (fun e => by cases e) ?_
  refine wtF hT hOx0 (by decide) (fun hT_2 => ?_)
  refine e_iconst (pc' := 9) (v := 0) (dAt D99 4 rfl) rfl (by decide) ?_
  refine e_istore_n (pc' := 10) (dAt D99 5 rfl) rfl (Nat.le_of_ble_eq_true rfl) rfl ?_
  exact h
-- PlaceNets$Sets.build.(LPlaceNets$Net;)V, from 10
set_option maxRecDepth 20000 in
theorem bk99_10 {d b : Nat} {Q : Option Value → mMem → Prop} {m : mMem} {x0 : Nat} {x1 : Nat} {x2 : Int32} (hT : mWT m) (hOx0 : m.1 x0 = some (.inr 6) ∧ x0 ≠ 0) (hOx1 : m.1 x1 = some (.inr 2) ∧ x1 ≠ 0)
    (h : ((((iF m x0 7) ≤ x2) → (mEv d 103 [.ref x0, .ref (64 * x0 + 1), .ref (64 * x0 + 4), .ref (64 * x0 + 3), .int (iF m x1 0)] m (fun r m' => mEs d 99 b g99 (67, [some (.ref x0), some (.ref x1), some (.int x2)], r.toList ++ [.ref x0], m') Q))) ∧ (¬ ((iF m x0 7) ≤ x2) → (mEv d 100 [.ref x1, .int x2] m (fun r m' => mEs d 99 b g99 (28, [some (.ref x0), some (.ref x1), some (.int x2)], r.toList ++ [.int x2, .ref (64 * x0 + 3)], m') Q))))) :
    mEs d 99 b g99 (10, [some (.ref x0), some (.ref x1), some (.int x2)], [], m) Q := by
  refine e_iload_n (pc' := 11) (dAt D99 6 rfl) rfl rfl ?_
  refine e_aload_n (pc' := 12) (dAt D99 7 rfl) rfl rfl ?_
  refine e_getfield (pc' := 15) (dAt D99 8 rfl) rfl rfl hOx0 (hT.int hOx0 7 (by decide)) ?_
  refine e_icmp_ge (t := 46) (pc' := 18) (dAt D99 9 rfl) ⟨by decide, by decide⟩ rfl (fun c => ?_) (fun c => ?_)
  · replace h := h.1 c
    refine e_aload_n (pc' := 47) (dAt D99 26 rfl) rfl rfl ?_
    refine e_aload_n (pc' := 48) (dAt D99 27 rfl) rfl rfl ?_
    refine e_aload_n (pc' := 49) (dAt D99 28 rfl) rfl rfl ?_
    refine e_getfield (pc' := 52) (dAt D99 29 rfl) rfl rfl hOx0 (hT.own hOx0 0 rfl) ?_
    refine e_aload_n (pc' := 53) (dAt D99 30 rfl) rfl rfl ?_
    refine e_getfield (pc' := 56) (dAt D99 31 rfl) rfl rfl hOx0 (hT.own hOx0 3 rfl) ?_
    refine e_aload_n (pc' := 57) (dAt D99 32 rfl) rfl rfl ?_
    refine e_getfield (pc' := 60) (dAt D99 33 rfl) rfl rfl hOx0 (hT.own hOx0 2 rfl) ?_
    refine e_aload_n (pc' := 61) (dAt D99 34 rfl) rfl rfl ?_
    refine e_getfield (pc' := 64) (dAt D99 35 rfl) rfl rfl hOx1 (hT.int hOx1 0 (by decide)) ?_
    exact e_call2 h (dAt D99 36 rfl) (hi0 rfl) rfl G103 (by decide) rfl (Nat.le_of_ble_eq_true rfl) (kV hOx0 rfl rfl) rfl rfl
  · replace h := h.2 c
    refine e_aload_n (pc' := 19) (dAt D99 10 rfl) rfl rfl ?_
    refine e_getfield (pc' := 22) (dAt D99 11 rfl) rfl rfl hOx0 (hT.own hOx0 2 rfl) ?_
    refine e_iload_n (pc' := 23) (dAt D99 12 rfl) rfl rfl ?_
    refine e_aload_n (pc' := 24) (dAt D99 13 rfl) rfl rfl ?_
    refine e_iload_n (pc' := 25) (dAt D99 14 rfl) rfl rfl ?_
    exact e_call2 h (dAt D99 15 rfl) (hi0 rfl) rfl G100 (by decide) rfl (Nat.le_of_ble_eq_true rfl) (kV hOx1 rfl rfl) rfl rfl
-- PlaceNets$Sets.build.(LPlaceNets$Net;)V, from 28
set_option maxRecDepth 20000 in
theorem bk99_28 {d b : Nat} {Q : Option Value → mMem → Prop} {m : mMem} {x0 : Nat} {x1 : Nat} {x2 : Int32} {y0 : Nat} {ly0 : Nat} {y1 : Int32} {y2 : Int32} (hT : mWT m) (hOx0 : m.1 x0 = some (.inr 6) ∧ x0 ≠ 0) (hOx1 : m.1 x1 = some (.inr 2) ∧ x1 ≠ 0) (hAy0 : m.1 y0 = some (.inl (.int, ly0)) ∧ y0 ≠ 0)
    (h : (mIn y1 ly0 = true) ∧ (∀ (m_1 : mMem), m_1 = (mSetI m y0 (upd (m.2.2.1 y0) y1.toNatClampNeg y2)) → mEv d 102 [.ref x1, .int x2] m_1 (fun r m' => mEs d 99 b g99 (39, [some (.ref x0), some (.ref x1), some (.int x2)], r.toList ++ [.int x2, .ref (64 * x0 + 4)], m') Q))) :
    mEs d 99 b g99 (28, [some (.ref x0), some (.ref x1), some (.int x2)], [.int y2, .int y1, .ref y0], m) Q := by
  obtain ⟨f1, h⟩ := h
  replace h := h _ rfl
  refine e_iastore (pc' := 29) (dAt D99 16 rfl) rfl hAy0.1 hAy0.2 f1 (nar_i _) ?_
  refine wtI hT (fun hT_2 => ?_)
  refine e_aload_n (pc' := 30) (dAt D99 17 rfl) rfl rfl ?_
  refine e_getfield (pc' := 33) (dAt D99 18 rfl) rfl rfl hOx0 (hT_2.own hOx0 3 rfl) ?_
  refine e_iload_n (pc' := 34) (dAt D99 19 rfl) rfl rfl ?_
  refine e_aload_n (pc' := 35) (dAt D99 20 rfl) rfl rfl ?_
  refine e_iload_n (pc' := 36) (dAt D99 21 rfl) rfl rfl ?_
  exact e_call2 h (dAt D99 22 rfl) (hi0 rfl) rfl G102 (by decide) rfl (Nat.le_of_ble_eq_true rfl) (kV hOx1 rfl rfl) rfl rfl
-- PlaceNets$Sets.build.(LPlaceNets$Net;)V, from 39
set_option maxRecDepth 20000 in
theorem bk99_39 {d b : Nat} {Q : Option Value → mMem → Prop} {m : mMem} {x0 : Nat} {x1 : Nat} {x2 : Int32} {y0 : Nat} {ly0 : Nat} {y1 : Int32} {y2 : Int32} (hT : mWT m) (hOx0 : m.1 x0 = some (.inr 6) ∧ x0 ≠ 0) (hOx1 : m.1 x1 = some (.inr 2) ∧ x1 ≠ 0) (hAy0 : m.1 y0 = some (.inl (.int, ly0)) ∧ y0 ≠ 0)
    (h : (mIn y1 ly0 = true) ∧ (∀ (m_1 : mMem), m_1 = (mSetI m y0 (upd (m.2.2.1 y0) y1.toNatClampNeg y2)) → ∀ (v_3 : Int32), v_3 = (x2 + 1) → mEs d 99 b g99 (10, [some (.ref x0), some (.ref x1), some (.int v_3)], [], m_1) Q)) :
    mEs d 99 b g99 (39, [some (.ref x0), some (.ref x1), some (.int x2)], [.int y2, .int y1, .ref y0], m) Q := by
  obtain ⟨f1, h⟩ := h
  replace h := h _ rfl
  refine e_iastore (pc' := 40) (dAt D99 23 rfl) rfl hAy0.1 hAy0.2 f1 (nar_i _) ?_
  refine wtI hT (fun hT_2 => ?_)
  replace h := h _ rfl
  refine e_iinc (pc' := 43) (dAt D99 24 rfl) rfl rfl (Nat.le_of_ble_eq_true rfl) (congrArg (_ + ·) (show Int32.ofInt (1) = (1 : Int32) by decide)) rfl ?_
  refine e_goto (t := 10) (dAt D99 25 rfl) ⟨by decide, by decide⟩ ?_
  exact h
-- PlaceNets$Sets.build.(LPlaceNets$Net;)V, from 67
set_option maxRecDepth 20000 in
theorem bk99_67 {d b : Nat} {Q : Option Value → mMem → Prop} {m : mMem} {x0 : Nat} {x1 : Nat} {x2 : Int32} {y0 : Nat} {y1 : Int32} (hT : mWT m) (hOx0 : m.1 x0 = some (.inr 6) ∧ x0 ≠ 0) (hOx1 : m.1 x1 = some (.inr 2) ∧ x1 ≠ 0) (hOy0 : m.1 y0 = some (.inr 6) ∧ y0 ≠ 0)
    (h : ∀ (m_1 : mMem), m_1 = (mSetF m y0 5 (.int y1)) → mEv d 103 [.ref x0, .ref (64 * x0 + 2), .ref (64 * x0 + 3), .ref (64 * x0 + 4), .int (iF m_1 x1 0)] m_1 (fun r m' => mEs d 99 b g99 (91, [some (.ref x0), some (.ref x1), some (.int x2)], r.toList ++ [.ref x0], m') Q)) :
    mEs d 99 b g99 (67, [some (.ref x0), some (.ref x1), some (.int x2)], [.int y1, .ref y0], m) Q := by
  replace h := h _ rfl
  refine e_putfield (pc' := 70) (dAt D99 37 rfl) rfl rfl hOy0 rfl rfl (fun e => by cases e) ?_
  refine wtF hT hOy0 (by decide) (fun hT_2 => ?_)
  refine e_aload_n (pc' := 71) (dAt D99 38 rfl) rfl rfl ?_
  refine e_aload_n (pc' := 72) (dAt D99 39 rfl) rfl rfl ?_
  refine e_aload_n (pc' := 73) (dAt D99 40 rfl) rfl rfl ?_
  refine e_getfield (pc' := 76) (dAt D99 41 rfl) rfl rfl hOx0 (hT_2.own hOx0 1 rfl) ?_
  refine e_aload_n (pc' := 77) (dAt D99 42 rfl) rfl rfl ?_
  refine e_getfield (pc' := 80) (dAt D99 43 rfl) rfl rfl hOx0 (hT_2.own hOx0 2 rfl) ?_
  refine e_aload_n (pc' := 81) (dAt D99 44 rfl) rfl rfl ?_
  refine e_getfield (pc' := 84) (dAt D99 45 rfl) rfl rfl hOx0 (hT_2.own hOx0 3 rfl) ?_
  refine e_aload_n (pc' := 85) (dAt D99 46 rfl) rfl rfl ?_
  refine e_getfield (pc' := 88) (dAt D99 47 rfl) rfl rfl hOx1 (hT_2.int hOx1 0 (by decide)) ?_
  exact e_call2 h (dAt D99 48 rfl) (hi0 rfl) rfl G103 (by decide) rfl (Nat.le_of_ble_eq_true rfl) (kV hOx0 rfl rfl) rfl rfl
-- PlaceNets$Sets.build.(LPlaceNets$Net;)V, from 91
set_option maxRecDepth 20000 in
theorem bk99_91 {d b : Nat} {Q : Option Value → mMem → Prop} {m : mMem} {x0 : Nat} {x1 : Nat} {x2 : Int32} {y0 : Nat} {y1 : Int32} (hT : mWT m) (hOx0 : m.1 x0 = some (.inr 6) ∧ x0 ≠ 0) (hOx1 : m.1 x1 = some (.inr 2) ∧ x1 ≠ 0) (hOy0 : m.1 y0 = some (.inr 6) ∧ y0 ≠ 0)
    (h : ∀ (m_1 : mMem), m_1 = (mSetF m y0 6 (.int y1)) → Q none m_1) :
    mEs d 99 b g99 (91, [some (.ref x0), some (.ref x1), some (.int x2)], [.int y1, .ref y0], m) Q := by
  replace h := h _ rfl
  refine e_putfield (pc' := 94) (dAt D99 49 rfl) rfl rfl hOy0 rfl rfl (fun e => by cases e) ?_
  refine wtF hT hOy0 (by decide) (fun hT_2 => ?_)
  exact e_return (dAt D99 50 rfl) rfl h
-- PlaceNets$Sets.collect.([I[I[II)I, from 0
set_option maxRecDepth 20000 in
theorem bk103_0 {d b : Nat} {Q : Option Value → mMem → Prop} {m : mMem} {x0 : Nat} {x1 : Nat} {lx1 : Nat} {x2 : Nat} {lx2 : Nat} {x3 : Nat} {lx3 : Nat} {x4 : Int32} {x5 : Option Value} {x6 : Option Value} (hT : mWT m) (hOx0 : m.1 x0 = some (.inr 6) ∧ x0 ≠ 0) (hAx1 : m.1 x1 = some (.inl (.int, lx1)) ∧ x1 ≠ 0) (hAx2 : m.1 x2 = some (.inl (.int, lx2)) ∧ x2 ≠ 0) (hAx3 : m.1 x3 = some (.inl (.int, lx3)) ∧ x3 ≠ 0)
    (h : mEs d 103 b g103 (6, [some (.ref x0), some (.ref x1), some (.ref x2), some (.ref x3), some (.int x4), some (.int 0), some (.int 1)], [], m) Q) :
    mEs d 103 b g103 (0, [some (.ref x0), some (.ref x1), some (.ref x2), some (.ref x3), some (.int x4), x5, x6], [], m) Q := by
  refine e_iconst (pc' := 1) (v := 0) (dAt D103 0 rfl) rfl (by decide) ?_
  refine e_istore (pc' := 3) (dAt D103 1 rfl) rfl (Nat.le_of_ble_eq_true rfl) rfl ?_
  refine e_iconst (pc' := 4) (v := 1) (dAt D103 2 rfl) rfl (by decide) ?_
  refine e_istore (pc' := 6) (dAt D103 3 rfl) rfl (Nat.le_of_ble_eq_true rfl) rfl ?_
  exact h
-- PlaceNets$Sets.collect.([I[I[II)I, from 6
set_option maxRecDepth 20000 in
theorem bk103_6 {d b : Nat} {Q : Option Value → mMem → Prop} {m : mMem} {x0 : Nat} {x1 : Nat} {lx1 : Nat} {x2 : Nat} {lx2 : Nat} {x3 : Nat} {lx3 : Nat} {x4 : Int32} {x5 : Int32} {x6 : Int32} (hT : mWT m) (hOx0 : m.1 x0 = some (.inr 6) ∧ x0 ≠ 0) (hAx1 : m.1 x1 = some (.inl (.int, lx1)) ∧ x1 ≠ 0) (hAx2 : m.1 x2 = some (.inl (.int, lx2)) ∧ x2 ≠ 0) (hAx3 : m.1 x3 = some (.inl (.int, lx3)) ∧ x3 ≠ 0)
    (h : (((((1 : Int32) <<< (x4 &&& 31)) ≤ x6) → (Q (some (.int x5)) m)) ∧ (¬ (((1 : Int32) <<< (x4 &&& 31)) ≤ x6) → (((252 ≤ x5) → (∀ (v_1 : Int32), v_1 = (x6 + 1) → mEs d 103 b g103 (6, [some (.ref x0), some (.ref x1), some (.ref x2), some (.ref x3), some (.int x4), some (.int x5), some (.int v_1)], [], m) Q)) ∧ (¬ (252 ≤ x5) → (mEv d 104 [.ref x0, .int x6, .ref x2, .ref x3] m (fun r m' => mEs d 103 b g103 (31, [some (.ref x0), some (.ref x1), some (.ref x2), some (.ref x3), some (.int x4), some (.int x5), some (.int x6)], r.toList ++ [], m') Q))))))) :
    mEs d 103 b g103 (6, [some (.ref x0), some (.ref x1), some (.ref x2), some (.ref x3), some (.int x4), some (.int x5), some (.int x6)], [], m) Q := by
  refine e_iload (pc' := 8) (dAt D103 4 rfl) rfl rfl ?_
  refine e_iconst (pc' := 9) (v := 1) (dAt D103 5 rfl) rfl (by decide) ?_
  refine e_iload (pc' := 11) (dAt D103 6 rfl) rfl rfl ?_
  refine e_ishl (pc' := 12) (dAt D103 7 rfl) rfl ?_
  refine e_icmp_ge (t := 60) (pc' := 15) (dAt D103 8 rfl) ⟨by decide, by decide⟩ rfl (fun c => ?_) (fun c => ?_)
  · replace h := h.1 c
    refine e_iload (pc' := 62) (dAt D103 30 rfl) rfl rfl ?_
    exact e_ireturn (dAt D103 31 rfl) rfl ⟨rfl, fun e => by cases e⟩ h
  · replace h := h.2 c
    refine e_iload (pc' := 17) (dAt D103 9 rfl) rfl rfl ?_
    refine e_sipush (pc' := 20) (v := 252) (dAt D103 10 rfl) rfl (by decide) ?_
    refine e_icmp_ge (t := 54) (pc' := 23) (dAt D103 11 rfl) ⟨by decide, by decide⟩ rfl (fun c => ?_) (fun c => ?_)
    · replace h := h.1 c
      replace h := h _ rfl
      refine e_iinc (pc' := 57) (dAt D103 28 rfl) rfl rfl (Nat.le_of_ble_eq_true rfl) (congrArg (_ + ·) (show Int32.ofInt (1) = (1 : Int32) by decide)) rfl ?_
      refine e_goto (t := 6) (dAt D103 29 rfl) ⟨by decide, by decide⟩ ?_
      exact h
    · replace h := h.2 c
      refine e_aload_n (pc' := 24) (dAt D103 12 rfl) rfl rfl ?_
      refine e_iload (pc' := 26) (dAt D103 13 rfl) rfl rfl ?_
      refine e_aload_n (pc' := 27) (dAt D103 14 rfl) rfl rfl ?_
      refine e_aload_n (pc' := 28) (dAt D103 15 rfl) rfl rfl ?_
      exact e_call2 h (dAt D103 16 rfl) (hi0 rfl) rfl G104 (by decide) rfl (Nat.le_of_ble_eq_true rfl) (kV hOx0 rfl rfl) rfl rfl
-- PlaceNets$Sets.collect.([I[I[II)I, from 31
set_option maxRecDepth 20000 in
theorem bk103_31 {d b : Nat} {Q : Option Value → mMem → Prop} {m : mMem} {x0 : Nat} {x1 : Nat} {lx1 : Nat} {x2 : Nat} {lx2 : Nat} {x3 : Nat} {lx3 : Nat} {x4 : Int32} {x5 : Int32} {x6 : Int32} {y0 : Int32} (hT : mWT m) (hOx0 : m.1 x0 = some (.inr 6) ∧ x0 ≠ 0) (hAx1 : m.1 x1 = some (.inl (.int, lx1)) ∧ x1 ≠ 0) (hAx2 : m.1 x2 = some (.inl (.int, lx2)) ∧ x2 ≠ 0) (hAx3 : m.1 x3 = some (.inl (.int, lx3)) ∧ x3 ≠ 0)
    (h : (((y0 = 0) → (∀ (v_1 : Int32), v_1 = (x6 + 1) → mEs d 103 b g103 (6, [some (.ref x0), some (.ref x1), some (.ref x2), some (.ref x3), some (.int x4), some (.int x5), some (.int v_1)], [], m) Q)) ∧ (¬ (y0 = 0) → (mEv d 105 [.ref x1, .int x5, .int x6] m (fun r m' => mEs d 103 b g103 (42, [some (.ref x0), some (.ref x1), some (.ref x2), some (.ref x3), some (.int x4), some (.int x5), some (.int x6)], r.toList ++ [], m') Q))))) :
    mEs d 103 b g103 (31, [some (.ref x0), some (.ref x1), some (.ref x2), some (.ref x3), some (.int x4), some (.int x5), some (.int x6)], [.int y0], m) Q := by
  refine e_if_eq (t := 54) (pc' := 34) (dAt D103 17 rfl) ⟨by decide, by decide⟩ rfl (fun c => ?_) (fun c => ?_)
  · replace h := h.1 c
    replace h := h _ rfl
    refine e_iinc (pc' := 57) (dAt D103 28 rfl) rfl rfl (Nat.le_of_ble_eq_true rfl) (congrArg (_ + ·) (show Int32.ofInt (1) = (1 : Int32) by decide)) rfl ?_
    refine e_goto (t := 6) (dAt D103 29 rfl) ⟨by decide, by decide⟩ ?_
    exact h
  · replace h := h.2 c
    refine e_aload_n (pc' := 35) (dAt D103 18 rfl) rfl rfl ?_
    refine e_iload (pc' := 37) (dAt D103 19 rfl) rfl rfl ?_
    refine e_iload (pc' := 39) (dAt D103 20 rfl) rfl rfl ?_
    exact e_call2 h (dAt D103 21 rfl) (hi2 rfl) rfl G105 (by decide) rfl (Nat.le_of_ble_eq_true rfl) rfl rfl rfl
-- PlaceNets$Sets.collect.([I[I[II)I, from 42
set_option maxRecDepth 20000 in
theorem bk103_42 {d b : Nat} {Q : Option Value → mMem → Prop} {m : mMem} {x0 : Nat} {x1 : Nat} {lx1 : Nat} {x2 : Nat} {lx2 : Nat} {x3 : Nat} {lx3 : Nat} {x4 : Int32} {x5 : Int32} {x6 : Int32} {y0 : Int32} (hT : mWT m) (hOx0 : m.1 x0 = some (.inr 6) ∧ x0 ≠ 0) (hAx1 : m.1 x1 = some (.inl (.int, lx1)) ∧ x1 ≠ 0) (hAx2 : m.1 x2 = some (.inl (.int, lx2)) ∧ x2 ≠ 0) (hAx3 : m.1 x3 = some (.inl (.int, lx3)) ∧ x3 ≠ 0)
    (h : (((¬ y0 = 0) → (∀ (v_1 : Int32), v_1 = (x6 + 1) → mEs d 103 b g103 (6, [some (.ref x0), some (.ref x1), some (.ref x2), some (.ref x3), some (.int x4), some (.int x5), some (.int v_1)], [], m) Q)) ∧ (¬ (¬ y0 = 0) → ((mIn x5 lx1 = true) ∧ (∀ (m_2 : mMem), m_2 = (mSetI m x1 (upd (m.2.2.1 x1) x5.toNatClampNeg x6)) → ∀ (v_4 : Int32), v_4 = (x5 + 1) → ∀ (v_5 : Int32), v_5 = (x6 + 1) → mEs d 103 b g103 (6, [some (.ref x0), some (.ref x1), some (.ref x2), some (.ref x3), some (.int x4), some (.int v_4), some (.int v_5)], [], m_2) Q))))) :
    mEs d 103 b g103 (42, [some (.ref x0), some (.ref x1), some (.ref x2), some (.ref x3), some (.int x4), some (.int x5), some (.int x6)], [.int y0], m) Q := by
  refine e_if_ne (t := 54) (pc' := 45) (dAt D103 22 rfl) ⟨by decide, by decide⟩ rfl (fun c => ?_) (fun c => ?_)
  · replace h := h.1 c
    replace h := h _ rfl
    refine e_iinc (pc' := 57) (dAt D103 28 rfl) rfl rfl (Nat.le_of_ble_eq_true rfl) (congrArg (_ + ·) (show Int32.ofInt (1) = (1 : Int32) by decide)) rfl ?_
    refine e_goto (t := 6) (dAt D103 29 rfl) ⟨by decide, by decide⟩ ?_
    exact h
  · replace h := h.2 c
    refine e_aload_n (pc' := 46) (dAt D103 23 rfl) rfl rfl ?_
    refine e_iload (pc' := 48) (dAt D103 24 rfl) rfl rfl ?_
    refine e_iload (pc' := 50) (dAt D103 25 rfl) rfl rfl ?_
    obtain ⟨f1, h⟩ := h
    replace h := h _ rfl
    refine e_iastore (pc' := 51) (dAt D103 26 rfl) rfl hAx1.1 hAx1.2 f1 (nar_i _) ?_
    refine wtI hT (fun hT_3 => ?_)
    replace h := h _ rfl
    refine e_iinc (pc' := 54) (dAt D103 27 rfl) rfl rfl (Nat.le_of_ble_eq_true rfl) (congrArg (_ + ·) (show Int32.ofInt (1) = (1 : Int32) by decide)) rfl ?_
    replace h := h _ rfl
    refine e_iinc (pc' := 57) (dAt D103 28 rfl) rfl rfl (Nat.le_of_ble_eq_true rfl) (congrArg (_ + ·) (show Int32.ofInt (1) = (1 : Int32) by decide)) rfl ?_
    refine e_goto (t := 6) (dAt D103 29 rfl) ⟨by decide, by decide⟩ ?_
    exact h
-- PlaceNets$Sets.isClosed.(I[I[I)Z, from 0
set_option maxRecDepth 20000 in
theorem bk104_0 {d b : Nat} {Q : Option Value → mMem → Prop} {m : mMem} {x0 : Nat} {x1 : Int32} {x2 : Nat} {lx2 : Nat} {x3 : Nat} {lx3 : Nat} {x4 : Option Value} (hT : mWT m) (hOx0 : m.1 x0 = some (.inr 6) ∧ x0 ≠ 0) (hAx2 : m.1 x2 = some (.inl (.int, lx2)) ∧ x2 ≠ 0) (hAx3 : m.1 x3 = some (.inl (.int, lx3)) ∧ x3 ≠ 0)
    (h : mEs d 104 b g104 (3, [some (.ref x0), some (.int x1), some (.ref x2), some (.ref x3), some (.int 0)], [], m) Q) :
    mEs d 104 b g104 (0, [some (.ref x0), some (.int x1), some (.ref x2), some (.ref x3), x4], [], m) Q := by
  refine e_iconst (pc' := 1) (v := 0) (dAt D104 0 rfl) rfl (by decide) ?_
  refine e_istore (pc' := 3) (dAt D104 1 rfl) rfl (Nat.le_of_ble_eq_true rfl) rfl ?_
  exact h
-- PlaceNets$Sets.isClosed.(I[I[I)Z, from 3
set_option maxRecDepth 20000 in
theorem bk104_3 {d b : Nat} {Q : Option Value → mMem → Prop} {m : mMem} {x0 : Nat} {x1 : Int32} {x2 : Nat} {lx2 : Nat} {x3 : Nat} {lx3 : Nat} {x4 : Int32} (hT : mWT m) (hOx0 : m.1 x0 = some (.inr 6) ∧ x0 ≠ 0) (hAx2 : m.1 x2 = some (.inl (.int, lx2)) ∧ x2 ≠ 0) (hAx3 : m.1 x3 = some (.inl (.int, lx3)) ∧ x3 ≠ 0)
    (h : ((((iF m x0 7) ≤ x4) → (Q (some (.int 1)) m)) ∧ (¬ ((iF m x0 7) ≤ x4) → ((mIn x4 lx2 = true) ∧ (((((m.2.2.1 x2 x4.toNatClampNeg) &&& x1) = 0) → (∀ (v_1 : Int32), v_1 = (x4 + 1) → mEs d 104 b g104 (3, [some (.ref x0), some (.int x1), some (.ref x2), some (.ref x3), some (.int v_1)], [], m) Q)) ∧ (¬ (((m.2.2.1 x2 x4.toNatClampNeg) &&& x1) = 0) → ((mIn x4 lx3 = true) ∧ (((¬ ((m.2.2.1 x3 x4.toNatClampNeg) &&& x1) = 0) → (∀ (v_2 : Int32), v_2 = (x4 + 1) → mEs d 104 b g104 (3, [some (.ref x0), some (.int x1), some (.ref x2), some (.ref x3), some (.int v_2)], [], m) Q)) ∧ (¬ (¬ ((m.2.2.1 x3 x4.toNatClampNeg) &&& x1) = 0) → (Q (some (.int 0)) m)))))))))) :
    mEs d 104 b g104 (3, [some (.ref x0), some (.int x1), some (.ref x2), some (.ref x3), some (.int x4)], [], m) Q := by
  refine e_iload (pc' := 5) (dAt D104 2 rfl) rfl rfl ?_
  refine e_aload_n (pc' := 6) (dAt D104 3 rfl) rfl rfl ?_
  refine e_getfield (pc' := 9) (dAt D104 4 rfl) rfl rfl hOx0 (hT.int hOx0 7 (by decide)) ?_
  refine e_icmp_ge (t := 38) (pc' := 12) (dAt D104 5 rfl) ⟨by decide, by decide⟩ rfl (fun c => ?_) (fun c => ?_)
  · replace h := h.1 c
    refine e_iconst (pc' := 39) (v := 1) (dAt D104 22 rfl) rfl (by decide) ?_
    exact e_ireturn (dAt D104 23 rfl) rfl ⟨rfl, fun e => by cases e⟩ h
  · replace h := h.2 c
    refine e_aload_n (pc' := 13) (dAt D104 6 rfl) rfl rfl ?_
    refine e_iload (pc' := 15) (dAt D104 7 rfl) rfl rfl ?_
    obtain ⟨f1, h⟩ := h
    refine e_iaload (pc' := 16) (dAt D104 8 rfl) rfl hAx2.1 (Or.inl hAx2.2) f1 rfl ?_
    refine e_iload_n (pc' := 17) (dAt D104 9 rfl) rfl rfl ?_
    refine e_iand (pc' := 18) (dAt D104 10 rfl) rfl ?_
    refine e_if_eq (t := 32) (pc' := 21) (dAt D104 11 rfl) ⟨by decide, by decide⟩ rfl (fun c => ?_) (fun c => ?_)
    · replace h := h.1 c
      replace h := h _ rfl
      refine e_iinc (pc' := 35) (dAt D104 20 rfl) rfl rfl (Nat.le_of_ble_eq_true rfl) (congrArg (_ + ·) (show Int32.ofInt (1) = (1 : Int32) by decide)) rfl ?_
      refine e_goto (t := 3) (dAt D104 21 rfl) ⟨by decide, by decide⟩ ?_
      exact h
    · replace h := h.2 c
      refine e_aload_n (pc' := 22) (dAt D104 12 rfl) rfl rfl ?_
      refine e_iload (pc' := 24) (dAt D104 13 rfl) rfl rfl ?_
      obtain ⟨f1, h⟩ := h
      refine e_iaload (pc' := 25) (dAt D104 14 rfl) rfl hAx3.1 (Or.inl hAx3.2) f1 rfl ?_
      refine e_iload_n (pc' := 26) (dAt D104 15 rfl) rfl rfl ?_
      refine e_iand (pc' := 27) (dAt D104 16 rfl) rfl ?_
      refine e_if_ne (t := 32) (pc' := 30) (dAt D104 17 rfl) ⟨by decide, by decide⟩ rfl (fun c => ?_) (fun c => ?_)
      · replace h := h.1 c
        replace h := h _ rfl
        refine e_iinc (pc' := 35) (dAt D104 20 rfl) rfl rfl (Nat.le_of_ble_eq_true rfl) (congrArg (_ + ·) (show Int32.ofInt (1) = (1 : Int32) by decide)) rfl ?_
        refine e_goto (t := 3) (dAt D104 21 rfl) ⟨by decide, by decide⟩ ?_
        exact h
      · replace h := h.2 c
        refine e_iconst (pc' := 31) (v := 0) (dAt D104 18 rfl) rfl (by decide) ?_
        exact e_ireturn (dAt D104 19 rfl) rfl ⟨rfl, fun e => by cases e⟩ h
-- PlaceNets$Sets.holdsOneOf.([III)Z, from 0
set_option maxRecDepth 20000 in
theorem bk105_0 {d b : Nat} {Q : Option Value → mMem → Prop} {m : mMem} {x0 : Nat} {lx0 : Nat} {x1 : Int32} {x2 : Int32} {x3 : Option Value} (hT : mWT m) (hAx0 : m.1 x0 = some (.inl (.int, lx0)) ∧ x0 ≠ 0)
    (h : mEs d 105 b g105 (2, [some (.ref x0), some (.int x1), some (.int x2), some (.int 0)], [], m) Q) :
    mEs d 105 b g105 (0, [some (.ref x0), some (.int x1), some (.int x2), x3], [], m) Q := by
  refine e_iconst (pc' := 1) (v := 0) (dAt D105 0 rfl) rfl (by decide) ?_
  refine e_istore_n (pc' := 2) (dAt D105 1 rfl) rfl (Nat.le_of_ble_eq_true rfl) rfl ?_
  exact h
-- PlaceNets$Sets.holdsOneOf.([III)Z, from 2
set_option maxRecDepth 20000 in
theorem bk105_2 {d b : Nat} {Q : Option Value → mMem → Prop} {m : mMem} {x0 : Nat} {lx0 : Nat} {x1 : Int32} {x2 : Int32} {x3 : Int32} (hT : mWT m) (hAx0 : m.1 x0 = some (.inl (.int, lx0)) ∧ x0 ≠ 0)
    (h : (((x1 ≤ x3) → (Q (some (.int 0)) m)) ∧ (¬ (x1 ≤ x3) → ((mIn x3 lx0 = true) ∧ (((¬ ((m.2.2.1 x0 x3.toNatClampNeg) &&& (x2 ^^^ ((-1)))) = 0) → (∀ (v_1 : Int32), v_1 = (x3 + 1) → mEs d 105 b g105 (2, [some (.ref x0), some (.int x1), some (.int x2), some (.int v_1)], [], m) Q)) ∧ (¬ (¬ ((m.2.2.1 x0 x3.toNatClampNeg) &&& (x2 ^^^ ((-1)))) = 0) → (Q (some (.int 1)) m))))))) :
    mEs d 105 b g105 (2, [some (.ref x0), some (.int x1), some (.int x2), some (.int x3)], [], m) Q := by
  refine e_iload_n (pc' := 3) (dAt D105 2 rfl) rfl rfl ?_
  refine e_iload_n (pc' := 4) (dAt D105 3 rfl) rfl rfl ?_
  refine e_icmp_ge (t := 25) (pc' := 7) (dAt D105 4 rfl) ⟨by decide, by decide⟩ rfl (fun c => ?_) (fun c => ?_)
  · replace h := h.1 c
    refine e_iconst (pc' := 26) (v := 0) (dAt D105 17 rfl) rfl (by decide) ?_
    exact e_ireturn (dAt D105 18 rfl) rfl ⟨rfl, fun e => by cases e⟩ h
  · replace h := h.2 c
    refine e_aload_n (pc' := 8) (dAt D105 5 rfl) rfl rfl ?_
    refine e_iload_n (pc' := 9) (dAt D105 6 rfl) rfl rfl ?_
    obtain ⟨f1, h⟩ := h
    refine e_iaload (pc' := 10) (dAt D105 7 rfl) rfl hAx0.1 (Or.inl hAx0.2) f1 rfl ?_
    refine e_iload_n (pc' := 11) (dAt D105 8 rfl) rfl rfl ?_
    refine e_iconst (pc' := 12) (v := (-1)) (dAt D105 9 rfl) rfl (by decide) ?_
    refine e_ixor (pc' := 13) (dAt D105 10 rfl) rfl ?_
    refine e_iand (pc' := 14) (dAt D105 11 rfl) rfl ?_
    refine e_if_ne (t := 19) (pc' := 17) (dAt D105 12 rfl) ⟨by decide, by decide⟩ rfl (fun c => ?_) (fun c => ?_)
    · replace h := h.1 c
      replace h := h _ rfl
      refine e_iinc (pc' := 22) (dAt D105 15 rfl) rfl rfl (Nat.le_of_ble_eq_true rfl) (congrArg (_ + ·) (show Int32.ofInt (1) = (1 : Int32) by decide)) rfl ?_
      refine e_goto (t := 2) (dAt D105 16 rfl) ⟨by decide, by decide⟩ ?_
      exact h
    · replace h := h.2 c
      refine e_iconst (pc' := 18) (v := 1) (dAt D105 13 rfl) rfl (by decide) ?_
      exact e_ireturn (dAt D105 14 rfl) rfl ⟨rfl, fun e => by cases e⟩ h
-- PlaceNets$Sets.countOf.(I)I, from 0
set_option maxRecDepth 20000 in
theorem bk106_0 {d b : Nat} {Q : Option Value → mMem → Prop} {m : mMem} {x0 : Nat} {x1 : Int32} (hT : mWT m) (hOx0 : m.1 x0 = some (.inr 6) ∧ x0 ≠ 0)
    (h : (((¬ x1 = 0) → (Q (some (.int (iF m x0 6))) m)) ∧ (¬ (¬ x1 = 0) → (Q (some (.int (iF m x0 5))) m)))) :
    mEs d 106 b g106 (0, [some (.ref x0), some (.int x1)], [], m) Q := by
  refine e_iload_n (pc' := 1) (dAt D106 0 rfl) rfl rfl ?_
  refine e_if_ne (t := 11) (pc' := 4) (dAt D106 1 rfl) ⟨by decide, by decide⟩ rfl (fun c => ?_) (fun c => ?_)
  · replace h := h.1 c
    refine e_aload_n (pc' := 12) (dAt D106 5 rfl) rfl rfl ?_
    refine e_getfield (pc' := 15) (dAt D106 6 rfl) rfl rfl hOx0 (hT.int hOx0 6 (by decide)) ?_
    exact e_ireturn (dAt D106 7 rfl) rfl ⟨rfl, fun e => by cases e⟩ h
  · replace h := h.2 c
    refine e_aload_n (pc' := 5) (dAt D106 2 rfl) rfl rfl ?_
    refine e_getfield (pc' := 8) (dAt D106 3 rfl) rfl rfl hOx0 (hT.int hOx0 5 (by decide)) ?_
    refine e_goto (t := 15) (dAt D106 4 rfl) ⟨by decide, by decide⟩ ?_
    exact e_ireturn (dAt D106 7 rfl) rfl ⟨rfl, fun e => by cases e⟩ h
-- PlaceNets$Sets.tell.(II)I, from 0
set_option maxRecDepth 20000 in
theorem bk107_0 {d b : Nat} {Q : Option Value → mMem → Prop} {m : mMem} {x0 : Nat} {x1 : Int32} {x2 : Int32} (hT : mWT m) (hOx0 : m.1 x0 = some (.inr 6) ∧ x0 ≠ 0)
    (h : (((x2 < 0) → (Q (some (.int ((-1)))) m)) ∧ (¬ (x2 < 0) → (mEv d 106 [.ref x0, .int x1] m (fun r m' => mEs d 107 b g107 (10, [some (.ref x0), some (.int x1), some (.int x2)], r.toList ++ [.int x2], m') Q))))) :
    mEs d 107 b g107 (0, [some (.ref x0), some (.int x1), some (.int x2)], [], m) Q := by
  refine e_iload_n (pc' := 1) (dAt D107 0 rfl) rfl rfl ?_
  refine e_if_lt (t := 13) (pc' := 4) (dAt D107 1 rfl) ⟨by decide, by decide⟩ rfl (fun c => ?_) (fun c => ?_)
  · replace h := h.1 c
    refine e_iconst (pc' := 14) (v := (-1)) (dAt D107 7 rfl) rfl (by decide) ?_
    exact e_ireturn (dAt D107 8 rfl) rfl ⟨rfl, fun e => by cases e⟩ h
  · replace h := h.2 c
    refine e_iload_n (pc' := 5) (dAt D107 2 rfl) rfl rfl ?_
    refine e_aload_n (pc' := 6) (dAt D107 3 rfl) rfl rfl ?_
    refine e_iload_n (pc' := 7) (dAt D107 4 rfl) rfl rfl ?_
    exact e_call2 h (dAt D107 5 rfl) (hi0 rfl) rfl G106 (by decide) rfl (Nat.le_of_ble_eq_true rfl) (kV hOx0 rfl rfl) rfl rfl
-- PlaceNets$Sets.tell.(II)I, from 10
set_option maxRecDepth 20000 in
theorem bk107_10 {d b : Nat} {Q : Option Value → mMem → Prop} {m : mMem} {x0 : Nat} {x1 : Int32} {x2 : Int32} {y0 : Int32} {y1 : Int32} (hT : mWT m) (hOx0 : m.1 x0 = some (.inr 6) ∧ x0 ≠ 0)
    (h : (((y0 < y1) → (((¬ x1 = 0) → ((mIn x2 252 = true) ∧ (Q (some (.int (m.2.2.1 (64 * x0 + 2) x2.toNatClampNeg))) m))) ∧ (¬ (¬ x1 = 0) → ((mIn x2 252 = true) ∧ (Q (some (.int (m.2.2.1 (64 * x0 + 1) x2.toNatClampNeg))) m))))) ∧ (¬ (y0 < y1) → (Q (some (.int ((-1)))) m)))) :
    mEs d 107 b g107 (10, [some (.ref x0), some (.int x1), some (.int x2)], [.int y1, .int y0], m) Q := by
  refine e_icmp_lt (t := 15) (pc' := 13) (dAt D107 6 rfl) ⟨by decide, by decide⟩ rfl (fun c => ?_) (fun c => ?_)
  · replace h := h.1 c
    refine e_iload_n (pc' := 16) (dAt D107 9 rfl) rfl rfl ?_
    refine e_if_ne (t := 28) (pc' := 19) (dAt D107 10 rfl) ⟨by decide, by decide⟩ rfl (fun c => ?_) (fun c => ?_)
    · replace h := h.1 c
      refine e_aload_n (pc' := 29) (dAt D107 16 rfl) rfl rfl ?_
      refine e_getfield (pc' := 32) (dAt D107 17 rfl) rfl rfl hOx0 (hT.own hOx0 1 rfl) ?_
      refine e_iload_n (pc' := 33) (dAt D107 18 rfl) rfl rfl ?_
      obtain ⟨f1, h⟩ := h
      refine e_iaload (pc' := 34) (dAt D107 19 rfl) rfl (hT.arr hOx0 1 rfl (by decide)).1 (Or.inl (hT.arr hOx0 1 rfl (by decide)).2) f1 rfl ?_
      exact e_ireturn (dAt D107 20 rfl) rfl ⟨rfl, fun e => by cases e⟩ h
    · replace h := h.2 c
      refine e_aload_n (pc' := 20) (dAt D107 11 rfl) rfl rfl ?_
      refine e_getfield (pc' := 23) (dAt D107 12 rfl) rfl rfl hOx0 (hT.own hOx0 0 rfl) ?_
      refine e_iload_n (pc' := 24) (dAt D107 13 rfl) rfl rfl ?_
      obtain ⟨f1, h⟩ := h
      refine e_iaload (pc' := 25) (dAt D107 14 rfl) rfl (hT.arr hOx0 0 rfl (by decide)).1 (Or.inl (hT.arr hOx0 0 rfl (by decide)).2) f1 rfl ?_
      refine e_goto (t := 34) (dAt D107 15 rfl) ⟨by decide, by decide⟩ ?_
      exact e_ireturn (dAt D107 20 rfl) rfl ⟨rfl, fun e => by cases e⟩ h
  · replace h := h.2 c
    refine e_iconst (pc' := 14) (v := (-1)) (dAt D107 7 rfl) rfl (by decide) ?_
    exact e_ireturn (dAt D107 8 rfl) rfl ⟨rfl, fun e => by cases e⟩ h
-- PlaceNets$Sets.greatestTrap.(I)I, from 0
set_option maxRecDepth 20000 in
theorem bk109_0 {d b : Nat} {Q : Option Value → mMem → Prop} {m : mMem} {x0 : Nat} {x1 : Int32} {x2 : Option Value} {x3 : Option Value} {x4 : Option Value} (hT : mWT m) (hOx0 : m.1 x0 = some (.inr 6) ∧ x0 ≠ 0)
    (h : mEs d 109 b g109 (4, [some (.ref x0), some (.int x1), some (.int x1), some (.int 0), x4], [], m) Q) :
    mEs d 109 b g109 (0, [some (.ref x0), some (.int x1), x2, x3, x4], [], m) Q := by
  refine e_iload_n (pc' := 1) (dAt D109 0 rfl) rfl rfl ?_
  refine e_istore_n (pc' := 2) (dAt D109 1 rfl) rfl (Nat.le_of_ble_eq_true rfl) rfl ?_
  refine e_iconst (pc' := 3) (v := 0) (dAt D109 2 rfl) rfl (by decide) ?_
  refine e_istore_n (pc' := 4) (dAt D109 3 rfl) rfl (Nat.le_of_ble_eq_true rfl) rfl ?_
  exact h
-- PlaceNets$Sets.greatestTrap.(I)I, from 4
set_option maxRecDepth 20000 in
theorem bk109_4 {d b : Nat} {Q : Option Value → mMem → Prop} {m : mMem} {x0 : Nat} {x1 : Int32} {x2 : Int32} {x3 : Int32} {x4 : Option Value} (hT : mWT m) (hOx0 : m.1 x0 = some (.inr 6) ∧ x0 ≠ 0)
    (h : (((10 < x3) → (Q (some (.int x2)) m)) ∧ (¬ (10 < x3) → (mEs d 109 b g109 (13, [some (.ref x0), some (.int x1), some (.int x2), some (.int x3), some (.int 0)], [], m) Q)))) :
    mEs d 109 b g109 (4, [some (.ref x0), some (.int x1), some (.int x2), some (.int x3), x4], [], m) Q := by
  refine e_iload_n (pc' := 5) (dAt D109 4 rfl) rfl rfl ?_
  refine e_bipush (pc' := 7) (v := 10) (dAt D109 5 rfl) rfl (by decide) ?_
  refine e_icmp_gt (t := 58) (pc' := 10) (dAt D109 6 rfl) ⟨by decide, by decide⟩ rfl (fun c => ?_) (fun c => ?_)
  · replace h := h.1 c
    refine e_iload_n (pc' := 59) (dAt D109 33 rfl) rfl rfl ?_
    exact e_ireturn (dAt D109 34 rfl) rfl ⟨rfl, fun e => by cases e⟩ h
  · replace h := h.2 c
    refine e_iconst (pc' := 11) (v := 0) (dAt D109 7 rfl) rfl (by decide) ?_
    refine e_istore (pc' := 13) (dAt D109 8 rfl) rfl (Nat.le_of_ble_eq_true rfl) rfl ?_
    exact h
-- PlaceNets$Sets.greatestTrap.(I)I, from 13
set_option maxRecDepth 20000 in
theorem bk109_13 {d b : Nat} {Q : Option Value → mMem → Prop} {m : mMem} {x0 : Nat} {x1 : Int32} {x2 : Int32} {x3 : Int32} {x4 : Int32} (hT : mWT m) (hOx0 : m.1 x0 = some (.inr 6) ∧ x0 ≠ 0)
    (h : ((((iF m x0 7) ≤ x4) → (∀ (v_1 : Int32), v_1 = (x3 + 1) → mEs d 109 b g109 (4, [some (.ref x0), some (.int x1), some (.int x2), some (.int v_1), some (.int x4)], [], m) Q)) ∧ (¬ ((iF m x0 7) ≤ x4) → ((mIn x4 10 = true) ∧ (((¬ ((m.2.2.1 (64 * x0 + 4) x4.toNatClampNeg) &&& x2) = 0) → (∀ (v_2 : Int32), v_2 = (x4 + 1) → mEs d 109 b g109 (13, [some (.ref x0), some (.int x1), some (.int x2), some (.int x3), some (.int v_2)], [], m) Q)) ∧ (¬ (¬ ((m.2.2.1 (64 * x0 + 4) x4.toNatClampNeg) &&& x2) = 0) → ((mIn x4 10 = true) ∧ (∀ (v_3 : Int32), v_3 = (x2 &&& ((m.2.2.1 (64 * x0 + 3) x4.toNatClampNeg) ^^^ ((-1)))) → ∀ (v_4 : Int32), v_4 = (x4 + 1) → mEs d 109 b g109 (13, [some (.ref x0), some (.int x1), some (.int v_3), some (.int x3), some (.int v_4)], [], m) Q)))))))) :
    mEs d 109 b g109 (13, [some (.ref x0), some (.int x1), some (.int x2), some (.int x3), some (.int x4)], [], m) Q := by
  refine e_iload (pc' := 15) (dAt D109 9 rfl) rfl rfl ?_
  refine e_aload_n (pc' := 16) (dAt D109 10 rfl) rfl rfl ?_
  refine e_getfield (pc' := 19) (dAt D109 11 rfl) rfl rfl hOx0 (hT.int hOx0 7 (by decide)) ?_
  refine e_icmp_ge (t := 52) (pc' := 22) (dAt D109 12 rfl) ⟨by decide, by decide⟩ rfl (fun c => ?_) (fun c => ?_)
  · replace h := h.1 c
    replace h := h _ rfl
    refine e_iinc (pc' := 55) (dAt D109 31 rfl) rfl rfl (Nat.le_of_ble_eq_true rfl) (congrArg (_ + ·) (show Int32.ofInt (1) = (1 : Int32) by decide)) rfl ?_
    refine e_goto (t := 4) (dAt D109 32 rfl) ⟨by decide, by decide⟩ ?_
    exact h
  · replace h := h.2 c
    refine e_aload_n (pc' := 23) (dAt D109 13 rfl) rfl rfl ?_
    refine e_getfield (pc' := 26) (dAt D109 14 rfl) rfl rfl hOx0 (hT.own hOx0 3 rfl) ?_
    refine e_iload (pc' := 28) (dAt D109 15 rfl) rfl rfl ?_
    obtain ⟨f1, h⟩ := h
    refine e_iaload (pc' := 29) (dAt D109 16 rfl) rfl (hT.arr hOx0 3 rfl (by decide)).1 (Or.inl (hT.arr hOx0 3 rfl (by decide)).2) f1 rfl ?_
    refine e_iload_n (pc' := 30) (dAt D109 17 rfl) rfl rfl ?_
    refine e_iand (pc' := 31) (dAt D109 18 rfl) rfl ?_
    refine e_if_ne (t := 46) (pc' := 34) (dAt D109 19 rfl) ⟨by decide, by decide⟩ rfl (fun c => ?_) (fun c => ?_)
    · replace h := h.1 c
      replace h := h _ rfl
      refine e_iinc (pc' := 49) (dAt D109 29 rfl) rfl rfl (Nat.le_of_ble_eq_true rfl) (congrArg (_ + ·) (show Int32.ofInt (1) = (1 : Int32) by decide)) rfl ?_
      refine e_goto (t := 13) (dAt D109 30 rfl) ⟨by decide, by decide⟩ ?_
      exact h
    · replace h := h.2 c
      refine e_iload_n (pc' := 35) (dAt D109 20 rfl) rfl rfl ?_
      refine e_aload_n (pc' := 36) (dAt D109 21 rfl) rfl rfl ?_
      refine e_getfield (pc' := 39) (dAt D109 22 rfl) rfl rfl hOx0 (hT.own hOx0 2 rfl) ?_
      refine e_iload (pc' := 41) (dAt D109 23 rfl) rfl rfl ?_
      obtain ⟨f1, h⟩ := h
      refine e_iaload (pc' := 42) (dAt D109 24 rfl) rfl (hT.arr hOx0 2 rfl (by decide)).1 (Or.inl (hT.arr hOx0 2 rfl (by decide)).2) f1 rfl ?_
      refine e_iconst (pc' := 43) (v := (-1)) (dAt D109 25 rfl) rfl (by decide) ?_
      refine e_ixor (pc' := 44) (dAt D109 26 rfl) rfl ?_
      refine e_iand (pc' := 45) (dAt D109 27 rfl) rfl ?_
      replace h := h _ rfl
      refine e_istore_n (pc' := 46) (dAt D109 28 rfl) rfl (Nat.le_of_ble_eq_true rfl) rfl ?_
      replace h := h _ rfl
      refine e_iinc (pc' := 49) (dAt D109 29 rfl) rfl rfl (Nat.le_of_ble_eq_true rfl) (congrArg (_ + ·) (show Int32.ofInt (1) = (1 : Int32) by decide)) rfl ?_
      refine e_goto (t := 13) (dAt D109 30 rfl) ⟨by decide, by decide⟩ ?_
      exact h
-- PlaceNets$Sets.allMarked.([I)Z, from 0
set_option maxRecDepth 20000 in
theorem bk118_0 {d b : Nat} {Q : Option Value → mMem → Prop} {m : mMem} {x0 : Nat} {x1 : Nat} {lx1 : Nat} {x2 : Option Value} (hT : mWT m) (hOx0 : m.1 x0 = some (.inr 6) ∧ x0 ≠ 0) (hAx1 : m.1 x1 = some (.inl (.int, lx1)) ∧ x1 ≠ 0)
    (h : mEs d 118 b g118 (2, [some (.ref x0), some (.ref x1), some (.int 0)], [], m) Q) :
    mEs d 118 b g118 (0, [some (.ref x0), some (.ref x1), x2], [], m) Q := by
  refine e_iconst (pc' := 1) (v := 0) (dAt D118 0 rfl) rfl (by decide) ?_
  refine e_istore_n (pc' := 2) (dAt D118 1 rfl) rfl (Nat.le_of_ble_eq_true rfl) rfl ?_
  exact h
-- PlaceNets$Sets.allMarked.([I)Z, from 2
set_option maxRecDepth 20000 in
theorem bk118_2 {d b : Nat} {Q : Option Value → mMem → Prop} {m : mMem} {x0 : Nat} {x1 : Nat} {lx1 : Nat} {x2 : Int32} (hT : mWT m) (hOx0 : m.1 x0 = some (.inr 6) ∧ x0 ≠ 0) (hAx1 : m.1 x1 = some (.inl (.int, lx1)) ∧ x1 ≠ 0)
    (h : ((((iF m x0 5) ≤ x2) → (Q (some (.int 1)) m)) ∧ (¬ ((iF m x0 5) ≤ x2) → ((mIn x2 252 = true) ∧ (mEv d 109 [.ref x0, .int (m.2.2.1 (64 * x0 + 1) x2.toNatClampNeg)] m (fun r m' => mEs d 118 b g118 (20, [some (.ref x0), some (.ref x1), some (.int x2)], r.toList ++ [], m') Q)))))) :
    mEs d 118 b g118 (2, [some (.ref x0), some (.ref x1), some (.int x2)], [], m) Q := by
  refine e_iload_n (pc' := 3) (dAt D118 2 rfl) rfl rfl ?_
  refine e_aload_n (pc' := 4) (dAt D118 3 rfl) rfl rfl ?_
  refine e_getfield (pc' := 7) (dAt D118 4 rfl) rfl rfl hOx0 (hT.int hOx0 5 (by decide)) ?_
  refine e_icmp_ge (t := 35) (pc' := 10) (dAt D118 5 rfl) ⟨by decide, by decide⟩ rfl (fun c => ?_) (fun c => ?_)
  · replace h := h.1 c
    refine e_iconst (pc' := 36) (v := 1) (dAt D118 19 rfl) rfl (by decide) ?_
    exact e_ireturn (dAt D118 20 rfl) rfl ⟨rfl, fun e => by cases e⟩ h
  · replace h := h.2 c
    refine e_aload_n (pc' := 11) (dAt D118 6 rfl) rfl rfl ?_
    refine e_aload_n (pc' := 12) (dAt D118 7 rfl) rfl rfl ?_
    refine e_getfield (pc' := 15) (dAt D118 8 rfl) rfl rfl hOx0 (hT.own hOx0 0 rfl) ?_
    refine e_iload_n (pc' := 16) (dAt D118 9 rfl) rfl rfl ?_
    obtain ⟨f1, h⟩ := h
    refine e_iaload (pc' := 17) (dAt D118 10 rfl) rfl (hT.arr hOx0 0 rfl (by decide)).1 (Or.inl (hT.arr hOx0 0 rfl (by decide)).2) f1 rfl ?_
    exact e_call2 h (dAt D118 11 rfl) (hi0 rfl) rfl G109 (by decide) rfl (Nat.le_of_ble_eq_true rfl) (kV hOx0 rfl rfl) rfl rfl
-- PlaceNets$Sets.allMarked.([I)Z, from 20
set_option maxRecDepth 20000 in
theorem bk118_20 {d b : Nat} {Q : Option Value → mMem → Prop} {m : mMem} {x0 : Nat} {x1 : Nat} {lx1 : Nat} {x2 : Int32} {y0 : Int32} (hT : mWT m) (hOx0 : m.1 x0 = some (.inr 6) ∧ x0 ≠ 0) (hAx1 : m.1 x1 = some (.inl (.int, lx1)) ∧ x1 ≠ 0)
    (h : mEv d 119 [.int y0, .ref x1] m (fun r m' => mEs d 118 b g118 (24, [some (.ref x0), some (.ref x1), some (.int x2)], r.toList ++ [], m') Q)) :
    mEs d 118 b g118 (20, [some (.ref x0), some (.ref x1), some (.int x2)], [.int y0], m) Q := by
  refine e_aload_n (pc' := 21) (dAt D118 12 rfl) rfl rfl ?_
  exact e_call2 h (dAt D118 13 rfl) (hi2 rfl) rfl G119 (by decide) rfl (Nat.le_of_ble_eq_true rfl) rfl rfl rfl
-- PlaceNets$Sets.allMarked.([I)Z, from 24
set_option maxRecDepth 20000 in
theorem bk118_24 {d b : Nat} {Q : Option Value → mMem → Prop} {m : mMem} {x0 : Nat} {x1 : Nat} {lx1 : Nat} {x2 : Int32} {y0 : Int32} (hT : mWT m) (hOx0 : m.1 x0 = some (.inr 6) ∧ x0 ≠ 0) (hAx1 : m.1 x1 = some (.inl (.int, lx1)) ∧ x1 ≠ 0)
    (h : (((¬ y0 = 0) → (∀ (v_1 : Int32), v_1 = (x2 + 1) → mEs d 118 b g118 (2, [some (.ref x0), some (.ref x1), some (.int v_1)], [], m) Q)) ∧ (¬ (¬ y0 = 0) → (Q (some (.int 0)) m)))) :
    mEs d 118 b g118 (24, [some (.ref x0), some (.ref x1), some (.int x2)], [.int y0], m) Q := by
  refine e_if_ne (t := 29) (pc' := 27) (dAt D118 14 rfl) ⟨by decide, by decide⟩ rfl (fun c => ?_) (fun c => ?_)
  · replace h := h.1 c
    replace h := h _ rfl
    refine e_iinc (pc' := 32) (dAt D118 17 rfl) rfl rfl (Nat.le_of_ble_eq_true rfl) (congrArg (_ + ·) (show Int32.ofInt (1) = (1 : Int32) by decide)) rfl ?_
    refine e_goto (t := 2) (dAt D118 18 rfl) ⟨by decide, by decide⟩ ?_
    exact h
  · replace h := h.2 c
    refine e_iconst (pc' := 28) (v := 0) (dAt D118 15 rfl) rfl (by decide) ?_
    exact e_ireturn (dAt D118 16 rfl) rfl ⟨rfl, fun e => by cases e⟩ h
-- PlaceNets$Sets.isMarked.(I[I)Z, from 0
set_option maxRecDepth 20000 in
theorem bk119_0 {d b : Nat} {Q : Option Value → mMem → Prop} {m : mMem} {x0 : Int32} {x1 : Nat} {lx1 : Nat} {x2 : Option Value} (hT : mWT m) (hAx1 : m.1 x1 = some (.inl (.int, lx1)) ∧ x1 ≠ 0)
    (h : mEs d 119 b g119 (2, [some (.int x0), some (.ref x1), some (.int 0)], [], m) Q) :
    mEs d 119 b g119 (0, [some (.int x0), some (.ref x1), x2], [], m) Q := by
  refine e_iconst (pc' := 1) (v := 0) (dAt D119 0 rfl) rfl (by decide) ?_
  refine e_istore_n (pc' := 2) (dAt D119 1 rfl) rfl (Nat.le_of_ble_eq_true rfl) rfl ?_
  exact h
-- PlaceNets$Sets.isMarked.(I[I)Z, from 2
set_option maxRecDepth 20000 in
theorem bk119_2 {d b : Nat} {Q : Option Value → mMem → Prop} {m : mMem} {x0 : Int32} {x1 : Nat} {lx1 : Nat} {x2 : Int32} (hT : mWT m) (hAx1 : m.1 x1 = some (.inl (.int, lx1)) ∧ x1 ≠ 0)
    (h : (((10 ≤ x2) → (Q (some (.int 0)) m)) ∧ (¬ (10 ≤ x2) → (((¬ ((x0 >>> (x2 &&& 31)) &&& 1) = 1) → (∀ (v_1 : Int32), v_1 = (x2 + 1) → mEs d 119 b g119 (2, [some (.int x0), some (.ref x1), some (.int v_1)], [], m) Q)) ∧ (¬ (¬ ((x0 >>> (x2 &&& 31)) &&& 1) = 1) → ((mIn x2 lx1 = true) ∧ ((((m.2.2.1 x1 x2.toNatClampNeg) ≤ 0) → (∀ (v_2 : Int32), v_2 = (x2 + 1) → mEs d 119 b g119 (2, [some (.int x0), some (.ref x1), some (.int v_2)], [], m) Q)) ∧ (¬ ((m.2.2.1 x1 x2.toNatClampNeg) ≤ 0) → (Q (some (.int 1)) m))))))))) :
    mEs d 119 b g119 (2, [some (.int x0), some (.ref x1), some (.int x2)], [], m) Q := by
  refine e_iload_n (pc' := 3) (dAt D119 2 rfl) rfl rfl ?_
  refine e_bipush (pc' := 5) (v := 10) (dAt D119 3 rfl) rfl (by decide) ?_
  refine e_icmp_ge (t := 31) (pc' := 8) (dAt D119 4 rfl) ⟨by decide, by decide⟩ rfl (fun c => ?_) (fun c => ?_)
  · replace h := h.1 c
    refine e_iconst (pc' := 32) (v := 0) (dAt D119 20 rfl) rfl (by decide) ?_
    exact e_ireturn (dAt D119 21 rfl) rfl ⟨rfl, fun e => by cases e⟩ h
  · replace h := h.2 c
    refine e_iload_n (pc' := 9) (dAt D119 5 rfl) rfl rfl ?_
    refine e_iload_n (pc' := 10) (dAt D119 6 rfl) rfl rfl ?_
    refine e_ishr (pc' := 11) (dAt D119 7 rfl) rfl ?_
    refine e_iconst (pc' := 12) (v := 1) (dAt D119 8 rfl) rfl (by decide) ?_
    refine e_iand (pc' := 13) (dAt D119 9 rfl) rfl ?_
    refine e_iconst (pc' := 14) (v := 1) (dAt D119 10 rfl) rfl (by decide) ?_
    refine e_icmp_ne (t := 25) (pc' := 17) (dAt D119 11 rfl) ⟨by decide, by decide⟩ rfl (fun c => ?_) (fun c => ?_)
    · replace h := h.1 c
      replace h := h _ rfl
      refine e_iinc (pc' := 28) (dAt D119 18 rfl) rfl rfl (Nat.le_of_ble_eq_true rfl) (congrArg (_ + ·) (show Int32.ofInt (1) = (1 : Int32) by decide)) rfl ?_
      refine e_goto (t := 2) (dAt D119 19 rfl) ⟨by decide, by decide⟩ ?_
      exact h
    · replace h := h.2 c
      refine e_aload_n (pc' := 18) (dAt D119 12 rfl) rfl rfl ?_
      refine e_iload_n (pc' := 19) (dAt D119 13 rfl) rfl rfl ?_
      obtain ⟨f1, h⟩ := h
      refine e_iaload (pc' := 20) (dAt D119 14 rfl) rfl hAx1.1 (Or.inl hAx1.2) f1 rfl ?_
      refine e_if_le (t := 25) (pc' := 23) (dAt D119 15 rfl) ⟨by decide, by decide⟩ rfl (fun c => ?_) (fun c => ?_)
      · replace h := h.1 c
        replace h := h _ rfl
        refine e_iinc (pc' := 28) (dAt D119 18 rfl) rfl rfl (Nat.le_of_ble_eq_true rfl) (congrArg (_ + ·) (show Int32.ofInt (1) = (1 : Int32) by decide)) rfl ?_
        refine e_goto (t := 2) (dAt D119 19 rfl) ⟨by decide, by decide⟩ ?_
        exact h
      · replace h := h.2 c
        refine e_iconst (pc' := 24) (v := 1) (dAt D119 16 rfl) rfl (by decide) ?_
        exact e_ireturn (dAt D119 17 rfl) rfl ⟨rfl, fun e => by cases e⟩ h
