/-! PlaceNetsLaw.arc: a call that may throw, and is caught. -/
abbrev gLa : mG := (⟨"PlaceNetsLaw", "arc", "(LPlaceNets;III[J)I"⟩, method_3_code, 6, some .int, 0, 5, 99, false)
def hLa : List (Nat × Nat × Nat × Nat) := [(0, 12, 15, 13)]
def wLa : List Cond := Cond.codeWith gLa.1 method_3_code 6 (some .int) hLa :: mTb
def tbLa : List (Nat × Instr × Nat) := [(0, .aload 4, 2), (2, .iconst (0), 1), (3, .aload_n 0, 1), (4, .iload_n 1, 1), (5, .iload_n 2, 1), (6, .iload_n 3, 1), (7, .invokevirtual 7, 3), (10, .i2l, 1), (11, .lastore, 1), (12, .goto (7), 3), (15, .astore 5, 2), (17, .iconst (1), 1), (18, .ireturn, 1), (19, .iconst (0), 1), (20, .ireturn, 1)]
set_option maxRecDepth 20000 in
theorem DLa : tbLa.all (dOk method_3_code) = true := by decide +kernel
abbrev g146 : mG := (⟨"PlaceNets", "arc", "(III)I"⟩, prog_1_method_5_code, 4, (some .int), 1, 4, 0, false)
theorem G146 : mGm[146]? = some g146 := rfl
def tb146 : List (Nat × Instr × Nat) := [(0, .aload_n 0, 1), (1, .getfield 19, 3), (4, .iload_n 1, 1), (5, .invokevirtual 76, 3), (8, .ifCond .eq (14), 3), (11, .aload_n 0, 1), (12, .getfield 19, 3), (15, .iload_n 2, 1), (16, .invokevirtual 79, 3), (19, .ifCond .ne (11), 3), (22, .new 82, 3), (25, .dup, 1), (26, .invokespecial 84, 3), (29, .athrow, 1), (30, .iload_n 3, 1), (31, .lookupswitch (55) #[(0, 25), (1, 40)], 25), (56, .aload_n 0, 1), (57, .getfield 19, 3), (60, .getfield 85, 3), (63, .iload_n 1, 1), (64, .bipush (10), 2), (66, .imul, 1), (67, .iload_n 2, 1), (68, .iadd, 1), (69, .iaload, 1), (70, .ireturn, 1), (71, .aload_n 0, 1), (72, .getfield 19, 3), (75, .getfield 88, 3), (78, .iload_n 1, 1), (79, .bipush (10), 2), (81, .imul, 1), (82, .iload_n 2, 1), (83, .iadd, 1), (84, .iaload, 1), (85, .ireturn, 1), (86, .iconst (-1), 1), (87, .ireturn, 1)]
set_option maxRecDepth 20000 in
theorem D146 : tb146.all (dOk prog_1_method_5_code) = true := by decide +kernel
set_option maxRecDepth 100000 in
theorem la_cw : mAtP 1075 (Cond.codeWith gLa.1 method_3_code 6 (some .int) hLa) := by rfl
set_option maxRecDepth 100000 in
theorem la_st : mAtP 1074 (Cond.static gLa.1) := by rfl
set_option maxRecDepth 100000 in
theorem la_ml : mAtP 1073 (Cond.methodLink "PlaceNetsLaw" 34 gLa.1) := by rfl
set_option maxRecDepth 100000 in
theorem la_cl : mAtP 1076 (Cond.classLink "PlaceNetsLaw" 13 xNS) := by rfl
set_option maxRecDepth 100000 in
theorem la_in : mAtP 113 (Cond.initialized "PlaceNetsLaw") := by rfl
set_option maxRecDepth 100000 in
theorem la_ca : mAtP 1083 (Cond.castable xNS xNS) := by rfl
theorem la_cx : Cond.castable xNS xNS ∈ mXw := List.mem_filter.mpr ⟨la_ca.mem, rfl⟩
theorem wLa_in : ∀ w ∈ wLa, w ∈ mTb := by
  intro w hw
  rcases List.mem_cons.mp hw with rfl | hw
  · exact mTb_in la_cw.mem rfl
  · exact hw
theorem wLa_good : GoodIn mTb (va_wsS "PlaceNetsLaw" 34 gLa.1 wLa) := mTb_GoodIn (fun w hw => by
  unfold va_wsS at hw
  rcases List.mem_append.mp hw with h | h
  · simp only [List.mem_cons, List.not_mem_nil, or_false] at h
    rcases h with rfl | rfl | rfl
    · exact mTb_in la_ml.mem rfl
    · exact mTb_in la_st.mem rfl
    · exact mTb_in la_in.mem rfl
  · exact wLa_in w h)
