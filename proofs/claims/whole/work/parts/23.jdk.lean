abbrev g11 : mG := (⟨"java/util/Arrays", "fill", "([II)V"⟩, prog_18_method_103_code, 4, none, 11, 2, 99, false)
theorem G11 : mGm[11]? = some g11 := rfl
def tb11 : List (Nat × Instr × Nat) := [(0, .iconst (0), 1), (1, .istore_n 2, 1), (2, .aload_n 0, 1), (3, .arraylength, 1), (4, .istore_n 3, 1), (5, .iload_n 2, 1), (6, .iload_n 3, 1), (7, .if_icmp .ge (13), 3), (10, .aload_n 0, 1), (11, .iload_n 2, 1), (12, .iload_n 1, 1), (13, .iastore, 1), (14, .iinc 2 (1), 3), (17, .goto (-12), 3), (20, .return_, 1)]
set_option maxRecDepth 20000 in
theorem D11 : tb11.all (dOk prog_18_method_103_code) = true := by decide +kernel
abbrev g29 : mG := (⟨"java/lang/Integer", "bitCount", "(I)I"⟩, prog_13_method_49_code, 1, (some .int), 10, 1, 99, false)
theorem G29 : mGm[29]? = some g29 := rfl
def tb29 : List (Nat × Instr × Nat) := [(0, .iload_n 0, 1), (1, .iload_n 0, 1), (2, .iconst (1), 1), (3, .iushr, 1), (4, .ldc_w 265, 3), (7, .iand, 1), (8, .isub, 1), (9, .istore_n 0, 1), (10, .iload_n 0, 1), (11, .ldc_w 266, 3), (14, .iand, 1), (15, .iload_n 0, 1), (16, .iconst (2), 1), (17, .iushr, 1), (18, .ldc_w 266, 3), (21, .iand, 1), (22, .iadd, 1), (23, .istore_n 0, 1), (24, .iload_n 0, 1), (25, .iload_n 0, 1), (26, .iconst (4), 1), (27, .iushr, 1), (28, .iadd, 1), (29, .ldc_w 267, 3), (32, .iand, 1), (33, .istore_n 0, 1), (34, .iload_n 0, 1), (35, .iload_n 0, 1), (36, .bipush (8), 2), (38, .iushr, 1), (39, .iadd, 1), (40, .istore_n 0, 1), (41, .iload_n 0, 1), (42, .iload_n 0, 1), (43, .bipush (16), 2), (45, .iushr, 1), (46, .iadd, 1), (47, .istore_n 0, 1), (48, .iload_n 0, 1), (49, .bipush (63), 2), (51, .iand, 1), (52, .ireturn, 1)]
set_option maxRecDepth 20000 in
theorem D29 : tb29.all (dOk prog_13_method_49_code) = true := by decide +kernel
abbrev g128 : mG := (⟨"java/util/Arrays", "fill", "([IIII)V"⟩, prog_18_method_104_code, 5, none, 11, 4, 99, false)
theorem G128 : mGm[128]? = some g128 := rfl
def tb128 : List (Nat × Instr × Nat) := [(0, .aload_n 0, 1), (1, .arraylength, 1), (2, .iload_n 1, 1), (3, .iload_n 2, 1), (4, .invokestatic 13, 3), (7, .iload_n 1, 1), (8, .istore 4, 2), (10, .iload 4, 2), (12, .iload_n 2, 1), (13, .if_icmp .ge (14), 3), (16, .aload_n 0, 1), (17, .iload 4, 2), (19, .iload_n 3, 1), (20, .iastore, 1), (21, .iinc 4 (1), 3), (24, .goto (-14), 3), (27, .return_, 1)]
set_option maxRecDepth 20000 in
theorem D128 : tb128.all (dOk prog_18_method_104_code) = true := by decide +kernel
abbrev g129 : mG := (⟨"java/util/Arrays", "rangeCheck", "(III)V"⟩, prog_18_method_30_code, 3, none, 11, 3, 99, false)
theorem G129 : mGm[129]? = some g129 := rfl
def tb129 : List (Nat × Instr × Nat) := [(0, .iload_n 1, 1), (1, .iload_n 2, 1), (2, .if_icmp .le (44), 3), (5, .new 43, 3), (8, .dup, 1), (9, .new 45, 3), (12, .dup, 1), (13, .invokespecial 47, 3), (16, .ldc 48, 2), (18, .invokevirtual 50, 3), (21, .iload_n 1, 1), (22, .invokevirtual 54, 3), (25, .ldc 57, 2), (27, .invokevirtual 50, 3), (30, .iload_n 2, 1), (31, .invokevirtual 54, 3), (34, .ldc 59, 2), (36, .invokevirtual 50, 3), (39, .invokevirtual 61, 3), (42, .invokespecial 65, 3), (45, .athrow, 1), (46, .iload_n 1, 1), (47, .ifCond .ge (12), 3), (50, .new 68, 3), (53, .dup, 1), (54, .iload_n 1, 1), (55, .invokespecial 70, 3), (58, .athrow, 1), (59, .iload_n 2, 1), (60, .iload_n 0, 1), (61, .if_icmp .le (12), 3), (64, .new 68, 3), (67, .dup, 1), (68, .iload_n 2, 1), (69, .invokespecial 70, 3), (72, .athrow, 1), (73, .return_, 1)]
set_option maxRecDepth 20000 in
theorem D129 : tb129.all (dOk prog_18_method_30_code) = true := by decide +kernel
-- java/util/Arrays.fill.([II)V, from 0
set_option maxRecDepth 20000 in
theorem bk11_0 {d b : Nat} {Q : Option Value → mMem → Prop} {m : mMem} {x0 : Nat} {lx0 : Nat} {x1 : Int32} {x2 : Option Value} {x3 : Option Value} (hT : mWT m) (hAx0 : m.1 x0 = some (.inl (.int, lx0)) ∧ x0 ≠ 0)
    (h : ∀ (v_1 : Int32), v_1 = (Int32.ofNat lx0) → mEs d 11 b g11 (5, [some (.ref x0), some (.int x1), some (.int 0), some (.int v_1)], [], m) Q) :
    mEs d 11 b g11 (0, [some (.ref x0), some (.int x1), x2, x3], [], m) Q := by
  refine e_iconst (pc' := 1) (v := 0) (dAt D11 0 rfl) rfl (by decide) ?_
  refine e_istore_n (pc' := 2) (dAt D11 1 rfl) rfl (Nat.le_of_ble_eq_true rfl) rfl ?_
  refine e_aload_n (pc' := 3) (dAt D11 2 rfl) rfl rfl ?_
  refine e_arraylength (pc' := 4) (dAt D11 3 rfl) rfl hAx0.1 (Or.inl hAx0.2) rfl ?_
  replace h := h _ rfl
  refine e_istore_n (pc' := 5) (dAt D11 4 rfl) rfl (Nat.le_of_ble_eq_true rfl) rfl ?_
  exact h
-- java/util/Arrays.fill.([II)V, from 5
set_option maxRecDepth 20000 in
theorem bk11_5 {d b : Nat} {Q : Option Value → mMem → Prop} {m : mMem} {x0 : Nat} {lx0 : Nat} {x1 : Int32} {x2 : Int32} {x3 : Int32} (hT : mWT m) (hAx0 : m.1 x0 = some (.inl (.int, lx0)) ∧ x0 ≠ 0)
    (h : (((x3 ≤ x2) → (Q none m)) ∧ (¬ (x3 ≤ x2) → ((mIn x2 lx0 = true) ∧ (∀ (m_1 : mMem), m_1 = (mSetI m x0 (upd (m.2.2.1 x0) x2.toNatClampNeg x1)) → ∀ (v_3 : Int32), v_3 = (x2 + 1) → mEs d 11 b g11 (5, [some (.ref x0), some (.int x1), some (.int v_3), some (.int x3)], [], m_1) Q))))) :
    mEs d 11 b g11 (5, [some (.ref x0), some (.int x1), some (.int x2), some (.int x3)], [], m) Q := by
  refine e_iload_n (pc' := 6) (dAt D11 5 rfl) rfl rfl ?_
  refine e_iload_n (pc' := 7) (dAt D11 6 rfl) rfl rfl ?_
  refine e_icmp_ge (t := 20) (pc' := 10) (dAt D11 7 rfl) ⟨by decide, by decide⟩ rfl (fun c => ?_) (fun c => ?_)
  · replace h := h.1 c
    exact e_return (dAt D11 14 rfl) rfl h
  · replace h := h.2 c
    refine e_aload_n (pc' := 11) (dAt D11 8 rfl) rfl rfl ?_
    refine e_iload_n (pc' := 12) (dAt D11 9 rfl) rfl rfl ?_
    refine e_iload_n (pc' := 13) (dAt D11 10 rfl) rfl rfl ?_
    obtain ⟨f1, h⟩ := h
    replace h := h _ rfl
    refine e_iastore (pc' := 14) (dAt D11 11 rfl) rfl hAx0.1 hAx0.2 f1 (nar_i _) ?_
    refine wtI hT (fun hT_2 => ?_)
    replace h := h _ rfl
    refine e_iinc (pc' := 17) (dAt D11 12 rfl) rfl rfl (Nat.le_of_ble_eq_true rfl) (congrArg (_ + ·) (show Int32.ofInt (1) = (1 : Int32) by decide)) rfl ?_
    refine e_goto (t := 5) (dAt D11 13 rfl) ⟨by decide, by decide⟩ ?_
    exact h
-- java/lang/Integer.bitCount.(I)I, from 0
set_option maxRecDepth 20000 in
theorem bk29_0 {d b : Nat} {Q : Option Value → mMem → Prop} {m : mMem} {x0 : Int32} (hT : mWT m)
    (h : ∀ (v_1 : Int32), v_1 = (x0 - (((x0.toUInt32 >>> ((1 : Int32).toUInt32 &&& Int32.toUInt32 31)).toInt32) &&& 1431655765)) → ∀ (v_2 : Int32), v_2 = ((v_1 &&& 858993459) + (((v_1.toUInt32 >>> ((2 : Int32).toUInt32 &&& Int32.toUInt32 31)).toInt32) &&& 858993459)) → ∀ (v_3 : Int32), v_3 = ((v_2 + ((v_2.toUInt32 >>> ((4 : Int32).toUInt32 &&& Int32.toUInt32 31)).toInt32)) &&& 252645135) → ∀ (v_4 : Int32), v_4 = (v_3 + ((v_3.toUInt32 >>> ((8 : Int32).toUInt32 &&& Int32.toUInt32 31)).toInt32)) → ∀ (v_5 : Int32), v_5 = (v_4 + ((v_4.toUInt32 >>> ((16 : Int32).toUInt32 &&& Int32.toUInt32 31)).toInt32)) → Q (some (.int (v_5 &&& 63))) m) :
    mEs d 29 b g29 (0, [some (.int x0)], [], m) Q := by
  refine e_iload_n (pc' := 1) (dAt D29 0 rfl) rfl rfl ?_
  refine e_iload_n (pc' := 2) (dAt D29 1 rfl) rfl rfl ?_
  refine e_iconst (pc' := 3) (v := 1) (dAt D29 2 rfl) rfl (by decide) ?_
  refine e_iushr (pc' := 4) (dAt D29 3 rfl) rfl ?_
  refine e_ldc_w (pc' := 7) (dAt D29 4 rfl) rfl rfl ?_
  refine e_iand (pc' := 8) (dAt D29 5 rfl) rfl ?_
  refine e_isub (pc' := 9) (dAt D29 6 rfl) rfl ?_
  replace h := h _ rfl
  refine e_istore_n (pc' := 10) (dAt D29 7 rfl) rfl (Nat.le_of_ble_eq_true rfl) rfl ?_
  refine e_iload_n (pc' := 11) (dAt D29 8 rfl) rfl rfl ?_
  refine e_ldc_w (pc' := 14) (dAt D29 9 rfl) rfl rfl ?_
  refine e_iand (pc' := 15) (dAt D29 10 rfl) rfl ?_
  refine e_iload_n (pc' := 16) (dAt D29 11 rfl) rfl rfl ?_
  refine e_iconst (pc' := 17) (v := 2) (dAt D29 12 rfl) rfl (by decide) ?_
  refine e_iushr (pc' := 18) (dAt D29 13 rfl) rfl ?_
  refine e_ldc_w (pc' := 21) (dAt D29 14 rfl) rfl rfl ?_
  refine e_iand (pc' := 22) (dAt D29 15 rfl) rfl ?_
  refine e_iadd (pc' := 23) (dAt D29 16 rfl) rfl ?_
  replace h := h _ rfl
  refine e_istore_n (pc' := 24) (dAt D29 17 rfl) rfl (Nat.le_of_ble_eq_true rfl) rfl ?_
  refine e_iload_n (pc' := 25) (dAt D29 18 rfl) rfl rfl ?_
  refine e_iload_n (pc' := 26) (dAt D29 19 rfl) rfl rfl ?_
  refine e_iconst (pc' := 27) (v := 4) (dAt D29 20 rfl) rfl (by decide) ?_
  refine e_iushr (pc' := 28) (dAt D29 21 rfl) rfl ?_
  refine e_iadd (pc' := 29) (dAt D29 22 rfl) rfl ?_
  refine e_ldc_w (pc' := 32) (dAt D29 23 rfl) rfl rfl ?_
  refine e_iand (pc' := 33) (dAt D29 24 rfl) rfl ?_
  replace h := h _ rfl
  refine e_istore_n (pc' := 34) (dAt D29 25 rfl) rfl (Nat.le_of_ble_eq_true rfl) rfl ?_
  refine e_iload_n (pc' := 35) (dAt D29 26 rfl) rfl rfl ?_
  refine e_iload_n (pc' := 36) (dAt D29 27 rfl) rfl rfl ?_
  refine e_bipush (pc' := 38) (v := 8) (dAt D29 28 rfl) rfl (by decide) ?_
  refine e_iushr (pc' := 39) (dAt D29 29 rfl) rfl ?_
  refine e_iadd (pc' := 40) (dAt D29 30 rfl) rfl ?_
  replace h := h _ rfl
  refine e_istore_n (pc' := 41) (dAt D29 31 rfl) rfl (Nat.le_of_ble_eq_true rfl) rfl ?_
  refine e_iload_n (pc' := 42) (dAt D29 32 rfl) rfl rfl ?_
  refine e_iload_n (pc' := 43) (dAt D29 33 rfl) rfl rfl ?_
  refine e_bipush (pc' := 45) (v := 16) (dAt D29 34 rfl) rfl (by decide) ?_
  refine e_iushr (pc' := 46) (dAt D29 35 rfl) rfl ?_
  refine e_iadd (pc' := 47) (dAt D29 36 rfl) rfl ?_
  replace h := h _ rfl
  refine e_istore_n (pc' := 48) (dAt D29 37 rfl) rfl (Nat.le_of_ble_eq_true rfl) rfl ?_
  refine e_iload_n (pc' := 49) (dAt D29 38 rfl) rfl rfl ?_
  refine e_bipush (pc' := 51) (v := 63) (dAt D29 39 rfl) rfl (by decide) ?_
  refine e_iand (pc' := 52) (dAt D29 40 rfl) rfl ?_
  exact e_ireturn (dAt D29 41 rfl) rfl ⟨rfl, fun e => by cases e⟩ h
-- java/util/Arrays.fill.([IIII)V, from 0
set_option maxRecDepth 20000 in
theorem bk128_0 {d b : Nat} {Q : Option Value → mMem → Prop} {m : mMem} {x0 : Nat} {lx0 : Nat} {x1 : Int32} {x2 : Int32} {x3 : Int32} {x4 : Option Value} (hT : mWT m) (hAx0 : m.1 x0 = some (.inl (.int, lx0)) ∧ x0 ≠ 0)
    (h : mEv d 129 [.int (Int32.ofNat lx0), .int x1, .int x2] m (fun r m' => mEs d 128 b g128 (7, [some (.ref x0), some (.int x1), some (.int x2), some (.int x3), x4], r.toList ++ [], m') Q)) :
    mEs d 128 b g128 (0, [some (.ref x0), some (.int x1), some (.int x2), some (.int x3), x4], [], m) Q := by
  refine e_aload_n (pc' := 1) (dAt D128 0 rfl) rfl rfl ?_
  refine e_arraylength (pc' := 2) (dAt D128 1 rfl) rfl hAx0.1 (Or.inl hAx0.2) rfl ?_
  refine e_iload_n (pc' := 3) (dAt D128 2 rfl) rfl rfl ?_
  refine e_iload_n (pc' := 4) (dAt D128 3 rfl) rfl rfl ?_
  exact e_call2 h (dAt D128 4 rfl) (hi2 rfl) rfl G129 (by decide) rfl (Nat.le_of_ble_eq_true rfl) rfl rfl rfl
-- java/util/Arrays.fill.([IIII)V, from 7
set_option maxRecDepth 20000 in
theorem bk128_7 {d b : Nat} {Q : Option Value → mMem → Prop} {m : mMem} {x0 : Nat} {lx0 : Nat} {x1 : Int32} {x2 : Int32} {x3 : Int32} {x4 : Option Value} (hT : mWT m) (hAx0 : m.1 x0 = some (.inl (.int, lx0)) ∧ x0 ≠ 0)
    (h : mEs d 128 b g128 (10, [some (.ref x0), some (.int x1), some (.int x2), some (.int x3), some (.int x1)], [], m) Q) :
    mEs d 128 b g128 (7, [some (.ref x0), some (.int x1), some (.int x2), some (.int x3), x4], [], m) Q := by
  refine e_iload_n (pc' := 8) (dAt D128 5 rfl) rfl rfl ?_
  refine e_istore (pc' := 10) (dAt D128 6 rfl) rfl (Nat.le_of_ble_eq_true rfl) rfl ?_
  exact h
-- java/util/Arrays.fill.([IIII)V, from 10
set_option maxRecDepth 20000 in
theorem bk128_10 {d b : Nat} {Q : Option Value → mMem → Prop} {m : mMem} {x0 : Nat} {lx0 : Nat} {x1 : Int32} {x2 : Int32} {x3 : Int32} {x4 : Int32} (hT : mWT m) (hAx0 : m.1 x0 = some (.inl (.int, lx0)) ∧ x0 ≠ 0)
    (h : (((x2 ≤ x4) → (Q none m)) ∧ (¬ (x2 ≤ x4) → ((mIn x4 lx0 = true) ∧ (∀ (m_1 : mMem), m_1 = (mSetI m x0 (upd (m.2.2.1 x0) x4.toNatClampNeg x3)) → ∀ (v_3 : Int32), v_3 = (x4 + 1) → mEs d 128 b g128 (10, [some (.ref x0), some (.int x1), some (.int x2), some (.int x3), some (.int v_3)], [], m_1) Q))))) :
    mEs d 128 b g128 (10, [some (.ref x0), some (.int x1), some (.int x2), some (.int x3), some (.int x4)], [], m) Q := by
  refine e_iload (pc' := 12) (dAt D128 7 rfl) rfl rfl ?_
  refine e_iload_n (pc' := 13) (dAt D128 8 rfl) rfl rfl ?_
  refine e_icmp_ge (t := 27) (pc' := 16) (dAt D128 9 rfl) ⟨by decide, by decide⟩ rfl (fun c => ?_) (fun c => ?_)
  · replace h := h.1 c
    exact e_return (dAt D128 16 rfl) rfl h
  · replace h := h.2 c
    refine e_aload_n (pc' := 17) (dAt D128 10 rfl) rfl rfl ?_
    refine e_iload (pc' := 19) (dAt D128 11 rfl) rfl rfl ?_
    refine e_iload_n (pc' := 20) (dAt D128 12 rfl) rfl rfl ?_
    obtain ⟨f1, h⟩ := h
    replace h := h _ rfl
    refine e_iastore (pc' := 21) (dAt D128 13 rfl) rfl hAx0.1 hAx0.2 f1 (nar_i _) ?_
    refine wtI hT (fun hT_2 => ?_)
    replace h := h _ rfl
    refine e_iinc (pc' := 24) (dAt D128 14 rfl) rfl rfl (Nat.le_of_ble_eq_true rfl) (congrArg (_ + ·) (show Int32.ofInt (1) = (1 : Int32) by decide)) rfl ?_
    refine e_goto (t := 10) (dAt D128 15 rfl) ⟨by decide, by decide⟩ ?_
    exact h
