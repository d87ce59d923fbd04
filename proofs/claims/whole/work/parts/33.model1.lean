-- PlaceNetsModel.thrown.()I, from 0
set_option maxRecDepth 20000 in
theorem bk148_0 {d b : Nat} {Q : Option Value → mMem → Prop} {m : mMem} {x0 : Nat} (hT : mWT m) (hOx0 : m.1 x0 = some (.inr 8) ∧ x0 ≠ 0)
    (h : Q (some (.int (iF m x0 0))) m) :
    mEs d 148 b g148 (0, [some (.ref x0)], [], m) Q := by
  refine e_aload_n (pc' := 1) (dAt D148 0 rfl) rfl rfl ?_
  refine e_getfield (pc' := 4) (dAt D148 1 rfl) rfl rfl hOx0 (hT.int hOx0 0 (by decide)) ?_
  exact e_ireturn (dAt D148 2 rfl) rfl ⟨rfl, fun e => by cases e⟩ h
-- PlaceNetsModel.sign.(I)I, from 0
set_option maxRecDepth 20000 in
theorem bk149_0 {d b : Nat} {Q : Option Value → mMem → Prop} {m : mMem} {x0 : Nat} {x1 : Int32} {x2 : Option Value} (hT : mWT m) (hOx0 : m.1 x0 = some (.inr 8) ∧ x0 ≠ 0)
    (h : ∀ (m_1 : mMem), m_1 = (mSetF m x0 0 (.int 0)) → (((((iF m_1 x0 2) + 4) ≤ 240) → (mEs d 149 b g149 (22, [some (.ref x0), some (.int x1), some (.int 24)], [], m_1) Q)) ∧ (¬ (((iF m_1 x0 2) + 4) ≤ 240) → (Q (some (.int ((-1)))) m_1)))) :
    mEs d 149 b g149 (0, [some (.ref x0), some (.int x1), x2], [], m) Q := by
  refine e_aload_n (pc' := 1) (dAt D149 0 rfl) rfl rfl ?_
  refine e_iconst (pc' := 2) (v := 0) (dAt D149 1 rfl) rfl (by decide) ?_
  replace h := h _ rfl
  refine e_putfield (pc' := 5) (dAt D149 2 rfl) rfl rfl hOx0 rfl rfl (fun e => by cases e) ?_
  refine wtF hT hOx0 (by decide) (fun hT_2 => ?_)
  refine e_aload_n (pc' := 6) (dAt D149 3 rfl) rfl rfl ?_
  refine e_getfield (pc' := 9) (dAt D149 4 rfl) rfl rfl hOx0 (hT_2.int hOx0 2 (by decide)) ?_
  refine e_iconst (pc' := 10) (v := 4) (dAt D149 5 rfl) rfl (by decide) ?_
  refine e_iadd (pc' := 11) (dAt D149 6 rfl) rfl ?_
  refine e_sipush (pc' := 14) (v := 240) (dAt D149 7 rfl) rfl (by decide) ?_
  refine e_icmp_le (t := 19) (pc' := 17) (dAt D149 8 rfl) ⟨by decide, by decide⟩ rfl (fun c => ?_) (fun c => ?_)
  · replace h := h.1 c
    refine e_bipush (pc' := 21) (v := 24) (dAt D149 11 rfl) rfl (by decide) ?_
    refine e_istore_n (pc' := 22) (dAt D149 12 rfl) rfl (Nat.le_of_ble_eq_true rfl) rfl ?_
    exact h
  · replace h := h.2 c
    refine e_iconst (pc' := 18) (v := (-1)) (dAt D149 9 rfl) rfl (by decide) ?_
    exact e_ireturn (dAt D149 10 rfl) rfl ⟨rfl, fun e => by cases e⟩ h
-- PlaceNetsModel.sign.(I)I, from 22
set_option maxRecDepth 20000 in
theorem bk149_22 {d b : Nat} {Q : Option Value → mMem → Prop} {m : mMem} {x0 : Nat} {x1 : Int32} {x2 : Int32} (hT : mWT m) (hOx0 : m.1 x0 = some (.inr 8) ∧ x0 ≠ 0)
    (h : (((x2 < 0) → (Q (some (.int (iF m x0 2))) m)) ∧ (¬ (x2 < 0) → ((mIn (iF m x0 2) 240 = true) ∧ (∀ (m_1 : mMem), m_1 = (mSetI m (64 * x0 + 1) (upd (m.2.2.1 (64 * x0 + 1)) (iF m x0 2).toNatClampNeg (vp_nar .byte (((x1.toUInt32 >>> (x2.toUInt32 &&& Int32.toUInt32 31)).toInt32).toInt8.toInt32)))) → ∀ (m_3 : mMem), m_3 = (mSetF m_1 x0 2 (.int ((iF m_1 x0 2) + 1))) → ∀ (v_5 : Int32), v_5 = (x2 + (-8)) → mEs d 149 b g149 (22, [some (.ref x0), some (.int x1), some (.int v_5)], [], m_3) Q))))) :
    mEs d 149 b g149 (22, [some (.ref x0), some (.int x1), some (.int x2)], [], m) Q := by
  refine e_iload_n (pc' := 23) (dAt D149 13 rfl) rfl rfl ?_
  refine e_if_lt (t := 55) (pc' := 26) (dAt D149 14 rfl) ⟨by decide, by decide⟩ rfl (fun c => ?_) (fun c => ?_)
  · replace h := h.1 c
    refine e_aload_n (pc' := 56) (dAt D149 32 rfl) rfl rfl ?_
    refine e_getfield (pc' := 59) (dAt D149 33 rfl) rfl rfl hOx0 (hT.int hOx0 2 (by decide)) ?_
    exact e_ireturn (dAt D149 34 rfl) rfl ⟨rfl, fun e => by cases e⟩ h
  · replace h := h.2 c
    refine e_aload_n (pc' := 27) (dAt D149 15 rfl) rfl rfl ?_
    refine e_getfield (pc' := 30) (dAt D149 16 rfl) rfl rfl hOx0 (hT.own hOx0 0 rfl) ?_
    refine e_aload_n (pc' := 31) (dAt D149 17 rfl) rfl rfl ?_
    refine e_getfield (pc' := 34) (dAt D149 18 rfl) rfl rfl hOx0 (hT.int hOx0 2 (by decide)) ?_
    refine e_iload_n (pc' := 35) (dAt D149 19 rfl) rfl rfl ?_
    refine e_iload_n (pc' := 36) (dAt D149 20 rfl) rfl rfl ?_
    refine e_iushr (pc' := 37) (dAt D149 21 rfl) rfl ?_
    refine e_i2b (pc' := 38) (dAt D149 22 rfl) rfl ?_
    obtain ⟨f1, h⟩ := h
    replace h := h _ rfl
    refine e_bastore (pc' := 39) (dAt D149 23 rfl) rfl (hT.arr hOx0 0 rfl (by decide)).1 (hT.arr hOx0 0 rfl (by decide)).2 f1 rfl ?_
    refine wtI hT (fun hT_2 => ?_)
    refine e_aload_n (pc' := 40) (dAt D149 24 rfl) rfl rfl ?_
    refine e_dup (pc' := 41) (dAt D149 25 rfl) rfl rfl ?_
    refine e_getfield (pc' := 44) (dAt D149 26 rfl) rfl rfl hOx0 (hT_2.int hOx0 2 (by decide)) ?_
    refine e_iconst (pc' := 45) (v := 1) (dAt D149 27 rfl) rfl (by decide) ?_
    refine e_iadd (pc' := 46) (dAt D149 28 rfl) rfl ?_
    replace h := h _ rfl
    refine e_putfield (pc' := 49) (dAt D149 29 rfl) rfl rfl hOx0 rfl rfl (fun e => by cases e) ?_
    refine wtF hT_2 hOx0 (by decide) (fun hT_4 => ?_)
    replace h := h _ rfl
    refine e_iinc (pc' := 52) (dAt D149 30 rfl) rfl rfl (Nat.le_of_ble_eq_true rfl) (congrArg (_ + ·) (show Int32.ofInt (-8) = (-8 : Int32) by decide)) rfl ?_
    refine e_goto (t := 22) (dAt D149 31 rfl) ⟨by decide, by decide⟩ ?_
    exact h
-- PlaceNetsModel.end.(I)Z, from 0
set_option maxRecDepth 20000 in
theorem bk150_0 {d b : Nat} {Q : Option Value → mMem → Prop} {m : mMem} {x0 : Nat} {x1 : Int32} (hT : mWT m) (hOx0 : m.1 x0 = some (.inr 8) ∧ x0 ≠ 0)
    (h : ∀ (m_1 : mMem), m_1 = (mSetF m x0 0 (.int 0)) → mEv d 151 [.long x1.toInt64, .long 0, .long ((iF m_1 x0 2).toInt64)] m_1 (fun r m' => mEs d 150 b g150 (16, [some (.ref x0), some (.int x1)], r.toList ++ [], m') Q)) :
    mEs d 150 b g150 (0, [some (.ref x0), some (.int x1)], [], m) Q := by
  refine e_aload_n (pc' := 1) (dAt D150 0 rfl) rfl rfl ?_
  refine e_iconst (pc' := 2) (v := 0) (dAt D150 1 rfl) rfl (by decide) ?_
  replace h := h _ rfl
  refine e_putfield (pc' := 5) (dAt D150 2 rfl) rfl rfl hOx0 rfl rfl (fun e => by cases e) ?_
  refine wtF hT hOx0 (by decide) (fun hT_2 => ?_)
  refine e_iload_n (pc' := 6) (dAt D150 3 rfl) rfl rfl ?_
  refine e_i2l (pc' := 7) (dAt D150 4 rfl) rfl ?_
  refine e_lconst (pc' := 8) (v := 0) (dAt D150 5 rfl) rfl (by decide) ?_
  refine e_aload_n (pc' := 9) (dAt D150 6 rfl) rfl rfl ?_
  refine e_getfield (pc' := 12) (dAt D150 7 rfl) rfl rfl hOx0 (hT_2.int hOx0 2 (by decide)) ?_
  refine e_i2l (pc' := 13) (dAt D150 8 rfl) rfl ?_
  exact e_call2 h (dAt D150 9 rfl) (hi2 rfl) rfl G151 (by decide) rfl (Nat.le_of_ble_eq_true rfl) rfl rfl rfl
-- PlaceNetsModel.end.(I)Z, from 16
set_option maxRecDepth 20000 in
theorem bk150_16 {d b : Nat} {Q : Option Value → mMem → Prop} {m : mMem} {x0 : Nat} {x1 : Int32} {y0 : Int32} (hT : mWT m) (hOx0 : m.1 x0 = some (.inr 8) ∧ x0 ≠ 0)
    (h : (((¬ y0 = 0) → (∀ (m_1 : mMem), m_1 = (mSetF m x0 2 (.int x1)) → Q (some (.int 1)) m_1)) ∧ (¬ (¬ y0 = 0) → (Q (some (.int 0)) m)))) :
    mEs d 150 b g150 (16, [some (.ref x0), some (.int x1)], [.int y0], m) Q := by
  refine e_if_ne (t := 21) (pc' := 19) (dAt D150 10 rfl) ⟨by decide, by decide⟩ rfl (fun c => ?_) (fun c => ?_)
  · replace h := h.1 c
    refine e_aload_n (pc' := 22) (dAt D150 13 rfl) rfl rfl ?_
    refine e_iload_n (pc' := 23) (dAt D150 14 rfl) rfl rfl ?_
    replace h := h _ rfl
    refine e_putfield (pc' := 26) (dAt D150 15 rfl) rfl rfl hOx0 rfl rfl (fun e => by cases e) ?_
    refine wtF hT hOx0 (by decide) (fun hT_2 => ?_)
    refine e_iconst (pc' := 27) (v := 1) (dAt D150 16 rfl) rfl (by decide) ?_
    exact e_ireturn (dAt D150 17 rfl) rfl ⟨rfl, fun e => by cases e⟩ h
  · replace h := h.2 c
    refine e_iconst (pc' := 20) (v := 0) (dAt D150 11 rfl) rfl (by decide) ?_
    exact e_ireturn (dAt D150 12 rfl) rfl ⟨rfl, fun e => by cases e⟩ h
-- PlaceNetsModel.in.(JJJ)Z, from 0
set_option maxRecDepth 20000 in
theorem bk151_0 {d b : Nat} {Q : Option Value → mMem → Prop} {m : mMem} {x0 : Int64} {x2 : Int64} {x4 : Int64} (hT : mWT m)
    (h : ((((lg_cmp x0 x2) < 0) → (Q (some (.int 0)) m)) ∧ (¬ ((lg_cmp x0 x2) < 0) → (((0 < (lg_cmp x0 x4)) → (Q (some (.int 0)) m)) ∧ (¬ (0 < (lg_cmp x0 x4)) → (Q (some (.int 1)) m)))))) :
    mEs d 151 b g151 (0, [some (.long x0), none, some (.long x2), none, some (.long x4), none], [], m) Q := by
  refine e_lload_n (pc' := 1) (dAt D151 0 rfl) rfl rfl ?_
  refine e_lload_n (pc' := 2) (dAt D151 1 rfl) rfl rfl ?_
  refine e_lcmp (pc' := 3) (dAt D151 2 rfl) rfl ?_
  refine e_if_lt (t := 17) (pc' := 6) (dAt D151 3 rfl) ⟨by decide, by decide⟩ rfl (fun c => ?_) (fun c => ?_)
  · replace h := h.1 c
    refine e_iconst (pc' := 18) (v := 0) (dAt D151 10 rfl) rfl (by decide) ?_
    exact e_ireturn (dAt D151 11 rfl) rfl ⟨rfl, fun e => by cases e⟩ h
  · replace h := h.2 c
    refine e_lload_n (pc' := 7) (dAt D151 4 rfl) rfl rfl ?_
    refine e_lload (pc' := 9) (dAt D151 5 rfl) rfl rfl ?_
    refine e_lcmp (pc' := 10) (dAt D151 6 rfl) rfl ?_
    refine e_if_gt (t := 17) (pc' := 13) (dAt D151 7 rfl) ⟨by decide, by decide⟩ rfl (fun c => ?_) (fun c => ?_)
    · replace h := h.1 c
      refine e_iconst (pc' := 18) (v := 0) (dAt D151 10 rfl) rfl (by decide) ?_
      exact e_ireturn (dAt D151 11 rfl) rfl ⟨rfl, fun e => by cases e⟩ h
    · replace h := h.2 c
      refine e_iconst (pc' := 14) (v := 1) (dAt D151 8 rfl) rfl (by decide) ?_
      refine e_goto (t := 18) (dAt D151 9 rfl) ⟨by decide, by decide⟩ ?_
      exact e_ireturn (dAt D151 11 rfl) rfl ⟨rfl, fun e => by cases e⟩ h
-- PlaceNetsModel.net.()I, from 0
set_option maxRecDepth 20000 in
theorem bk152_0 {d b : Nat} {Q : Option Value → mMem → Prop} {m : mMem} {x0 : Nat} {x1 : Option Value} (hT : mWT m) (hOx0 : m.1 x0 = some (.inr 8) ∧ x0 ≠ 0)
    (h : ∀ (m_1 : mMem), m_1 = (mSetF m x0 0 (.int 0)) → ∀ (m_3 : mMem), m_3 = (mSetF m_1 x0 3 (.int 0)) → ∀ (m_5 : mMem), m_5 = (mSetF m_3 x0 5 (.int 1)) → ∀ (m_7 : mMem), m_7 = (mSetF m_5 x0 13 (.int 0)) → ∀ (m_9 : mMem), m_9 = (mSetF m_7 x0 14 (.int 0)) → mEs d 152 b g152 (27, [some (.ref x0), some (.int 0)], [], m_9) Q) :
    mEs d 152 b g152 (0, [some (.ref x0), x1], [], m) Q := by
  refine e_aload_n (pc' := 1) (dAt D152 0 rfl) rfl rfl ?_
  refine e_iconst (pc' := 2) (v := 0) (dAt D152 1 rfl) rfl (by decide) ?_
  replace h := h _ rfl
  refine e_putfield (pc' := 5) (dAt D152 2 rfl) rfl rfl hOx0 rfl rfl (fun e => by cases e) ?_
  refine wtF hT hOx0 (by decide) (fun hT_2 => ?_)
  refine e_aload_n (pc' := 6) (dAt D152 3 rfl) rfl rfl ?_
  refine e_iconst (pc' := 7) (v := 0) (dAt D152 4 rfl) rfl (by decide) ?_
  replace h := h _ rfl
  refine e_putfield (pc' := 10) (dAt D152 5 rfl) rfl rfl hOx0 rfl rfl (fun e => by cases e) ?_
  refine wtF hT_2 hOx0 (by decide) (fun hT_4 => ?_)
  refine e_aload_n (pc' := 11) (dAt D152 6 rfl) rfl rfl ?_
  refine e_iconst (pc' := 12) (v := 1) (dAt D152 7 rfl) rfl (by decide) ?_
  replace h := h _ rfl
  refine e_putfield (pc' := 15) (dAt D152 8 rfl) rfl rfl hOx0 rfl rfl (fun e => by cases e) ?_
  refine wtF hT_4 hOx0 (by decide) (fun hT_6 => ?_)
  refine e_aload_n (pc' := 16) (dAt D152 9 rfl) rfl rfl ?_
  refine e_iconst (pc' := 17) (v := 0) (dAt D152 10 rfl) rfl (by decide) ?_
  replace h := h _ rfl
  refine e_putfield (pc' := 20) (dAt D152 11 rfl) rfl rfl hOx0 rfl rfl (fun e => by cases e) ?_
  refine wtF hT_6 hOx0 (by decide) (fun hT_8 => ?_)
  refine e_aload_n (pc' := 21) (dAt D152 12 rfl) rfl rfl ?_
  refine e_iconst (pc' := 22) (v := 0) (dAt D152 13 rfl) rfl (by decide) ?_
  replace h := h _ rfl
  refine e_putfield (pc' := 25) (dAt D152 14 rfl) rfl rfl hOx0 rfl rfl (fun e => by cases e) ?_
  refine wtF hT_8 hOx0 (by decide) (fun hT_10 => ?_)
  refine e_iconst (pc' := 26) (v := 0) (dAt D152 15 rfl) rfl (by decide) ?_
  refine e_istore_n (pc' := 27) (dAt D152 16 rfl) rfl (Nat.le_of_ble_eq_true rfl) rfl ?_
  exact h
-- PlaceNetsModel.net.()I, from 27
set_option maxRecDepth 20000 in
theorem bk152_27 {d b : Nat} {Q : Option Value → mMem → Prop} {m : mMem} {x0 : Nat} {x1 : Int32} (hT : mWT m) (hOx0 : m.1 x0 = some (.inr 8) ∧ x0 ≠ 0)
    (h : (((110 ≤ x1) → (mEs d 152 b g152 (55, [some (.ref x0), some (.int 0)], [], m) Q)) ∧ (¬ (110 ≤ x1) → ((mIn x1 110 = true) ∧ (∀ (m_1 : mMem), m_1 = (mSetI m (64 * x0 + 7) (upd (m.2.2.1 (64 * x0 + 7)) x1.toNatClampNeg 0)) → (mIn x1 110 = true) ∧ (∀ (m_3 : mMem), m_3 = (mSetI m_1 (64 * x0 + 8) (upd (m_1.2.2.1 (64 * x0 + 8)) x1.toNatClampNeg 0)) → ∀ (v_5 : Int32), v_5 = (x1 + 1) → mEs d 152 b g152 (27, [some (.ref x0), some (.int v_5)], [], m_3) Q)))))) :
    mEs d 152 b g152 (27, [some (.ref x0), some (.int x1)], [], m) Q := by
  refine e_iload_n (pc' := 28) (dAt D152 17 rfl) rfl rfl ?_
  refine e_bipush (pc' := 30) (v := 110) (dAt D152 18 rfl) rfl (by decide) ?_
  refine e_icmp_ge (t := 53) (pc' := 33) (dAt D152 19 rfl) ⟨by decide, by decide⟩ rfl (fun c => ?_) (fun c => ?_)
  · replace h := h.1 c
    refine e_iconst (pc' := 54) (v := 0) (dAt D152 32 rfl) rfl (by decide) ?_
    refine e_istore_n (pc' := 55) (dAt D152 33 rfl) rfl (Nat.le_of_ble_eq_true rfl) rfl ?_
    exact h
  · replace h := h.2 c
    refine e_aload_n (pc' := 34) (dAt D152 20 rfl) rfl rfl ?_
    refine e_getfield (pc' := 37) (dAt D152 21 rfl) rfl rfl hOx0 (hT.own hOx0 6 rfl) ?_
    refine e_iload_n (pc' := 38) (dAt D152 22 rfl) rfl rfl ?_
    refine e_iconst (pc' := 39) (v := 0) (dAt D152 23 rfl) rfl (by decide) ?_
    obtain ⟨f1, h⟩ := h
    replace h := h _ rfl
    refine e_iastore (pc' := 40) (dAt D152 24 rfl) rfl (hT.arr hOx0 6 rfl (by decide)).1 (hT.arr hOx0 6 rfl (by decide)).2 f1 (nar_i _) ?_
    refine wtI hT (fun hT_2 => ?_)
    refine e_aload_n (pc' := 41) (dAt D152 25 rfl) rfl rfl ?_
    refine e_getfield (pc' := 44) (dAt D152 26 rfl) rfl rfl hOx0 (hT_2.own hOx0 7 rfl) ?_
    refine e_iload_n (pc' := 45) (dAt D152 27 rfl) rfl rfl ?_
    refine e_iconst (pc' := 46) (v := 0) (dAt D152 28 rfl) rfl (by decide) ?_
    obtain ⟨f1, h⟩ := h
    replace h := h _ rfl
    refine e_iastore (pc' := 47) (dAt D152 29 rfl) rfl (hT_2.arr hOx0 7 rfl (by decide)).1 (hT_2.arr hOx0 7 rfl (by decide)).2 f1 (nar_i _) ?_
    refine wtI hT_2 (fun hT_4 => ?_)
    replace h := h _ rfl
    refine e_iinc (pc' := 50) (dAt D152 30 rfl) rfl rfl (Nat.le_of_ble_eq_true rfl) (congrArg (_ + ·) (show Int32.ofInt (1) = (1 : Int32) by decide)) rfl ?_
    refine e_goto (t := 27) (dAt D152 31 rfl) ⟨by decide, by decide⟩ ?_
    exact h
-- PlaceNetsModel.net.()I, from 55
set_option maxRecDepth 20000 in
theorem bk152_55 {d b : Nat} {Q : Option Value → mMem → Prop} {m : mMem} {x0 : Nat} {x1 : Int32} (hT : mWT m) (hOx0 : m.1 x0 = some (.inr 8) ∧ x0 ≠ 0)
    (h : (((10 ≤ x1) → (mEv d 153 [.ref x0] m (fun r m' => mEs d 152 b g152 (78, [some (.ref x0), some (.int x1)], r.toList ++ [], m') Q))) ∧ (¬ (10 ≤ x1) → ((mIn x1 10 = true) ∧ (∀ (m_1 : mMem), m_1 = (mSetI m (64 * x0 + 9) (upd (m.2.2.1 (64 * x0 + 9)) x1.toNatClampNeg 0)) → ∀ (v_3 : Int32), v_3 = (x1 + 1) → mEs d 152 b g152 (55, [some (.ref x0), some (.int v_3)], [], m_1) Q))))) :
    mEs d 152 b g152 (55, [some (.ref x0), some (.int x1)], [], m) Q := by
  refine e_iload_n (pc' := 56) (dAt D152 34 rfl) rfl rfl ?_
  refine e_bipush (pc' := 58) (v := 10) (dAt D152 35 rfl) rfl (by decide) ?_
  refine e_icmp_ge (t := 74) (pc' := 61) (dAt D152 36 rfl) ⟨by decide, by decide⟩ rfl (fun c => ?_) (fun c => ?_)
  · replace h := h.1 c
    refine e_aload_n (pc' := 75) (dAt D152 44 rfl) rfl rfl ?_
    exact e_call2 h (dAt D152 45 rfl) (hi0 rfl) rfl G153 (by decide) rfl (Nat.le_of_ble_eq_true rfl) (kV hOx0 rfl rfl) rfl rfl
  · replace h := h.2 c
    refine e_aload_n (pc' := 62) (dAt D152 37 rfl) rfl rfl ?_
    refine e_getfield (pc' := 65) (dAt D152 38 rfl) rfl rfl hOx0 (hT.own hOx0 8 rfl) ?_
    refine e_iload_n (pc' := 66) (dAt D152 39 rfl) rfl rfl ?_
    refine e_iconst (pc' := 67) (v := 0) (dAt D152 40 rfl) rfl (by decide) ?_
    obtain ⟨f1, h⟩ := h
    replace h := h _ rfl
    refine e_iastore (pc' := 68) (dAt D152 41 rfl) rfl (hT.arr hOx0 8 rfl (by decide)).1 (hT.arr hOx0 8 rfl (by decide)).2 f1 (nar_i _) ?_
    refine wtI hT (fun hT_2 => ?_)
    replace h := h _ rfl
    refine e_iinc (pc' := 71) (dAt D152 42 rfl) rfl rfl (Nat.le_of_ble_eq_true rfl) (congrArg (_ + ·) (show Int32.ofInt (1) = (1 : Int32) by decide)) rfl ?_
    refine e_goto (t := 55) (dAt D152 43 rfl) ⟨by decide, by decide⟩ ?_
    exact h
-- PlaceNetsModel.net.()I, from 78
set_option maxRecDepth 20000 in
theorem bk152_78 {d b : Nat} {Q : Option Value → mMem → Prop} {m : mMem} {x0 : Nat} {x1 : Int32} (hT : mWT m) (hOx0 : m.1 x0 = some (.inr 8) ∧ x0 ≠ 0)
    (h : ((((iF m x0 5) = 0) → (mEv d 154 [.ref x0] m (fun r m' => mEs d 152 b g152 (115, [some (.ref x0), some (.int x1)], r.toList ++ [], m') Q))) ∧ (¬ ((iF m x0 5) = 0) → (mEv d 154 [.ref x0] m (fun r m' => mEs d 152 b g152 (89, [some (.ref x0), some (.int x1)], r.toList ++ [], m') Q))))) :
    mEs d 152 b g152 (78, [some (.ref x0), some (.int x1)], [], m) Q := by
  refine e_aload_n (pc' := 79) (dAt D152 46 rfl) rfl rfl ?_
  refine e_getfield (pc' := 82) (dAt D152 47 rfl) rfl rfl hOx0 (hT.int hOx0 5 (by decide)) ?_
  refine e_if_eq (t := 111) (pc' := 85) (dAt D152 48 rfl) ⟨by decide, by decide⟩ rfl (fun c => ?_) (fun c => ?_)
  · replace h := h.1 c
    refine e_aload_n (pc' := 112) (dAt D152 62 rfl) rfl rfl ?_
    exact e_call2 h (dAt D152 63 rfl) (hi0 rfl) rfl G154 (by decide) rfl (Nat.le_of_ble_eq_true rfl) (kV hOx0 rfl rfl) rfl rfl
  · replace h := h.2 c
    refine e_aload_n (pc' := 86) (dAt D152 49 rfl) rfl rfl ?_
    exact e_call2 h (dAt D152 50 rfl) (hi0 rfl) rfl G154 (by decide) rfl (Nat.le_of_ble_eq_true rfl) (kV hOx0 rfl rfl) rfl rfl
-- PlaceNetsModel.net.()I, from 89
set_option maxRecDepth 20000 in
theorem bk152_89 {d b : Nat} {Q : Option Value → mMem → Prop} {m : mMem} {x0 : Nat} {x1 : Int32} {y0 : Int32} (hT : mWT m) (hOx0 : m.1 x0 = some (.inr 8) ∧ x0 ≠ 0)
    (h : (((¬ y0 = 59) → (mEv d 154 [.ref x0] m (fun r m' => mEs d 152 b g152 (115, [some (.ref x0), some (.int x1)], r.toList ++ [], m') Q))) ∧ (¬ (¬ y0 = 59) → (∀ (m_1 : mMem), m_1 = (mSetF m x0 3 (.int ((iF m x0 3) + 1))) → mEv d 153 [.ref x0] m_1 (fun r m' => mEs d 152 b g152 (108, [some (.ref x0), some (.int x1)], r.toList ++ [], m') Q))))) :
    mEs d 152 b g152 (89, [some (.ref x0), some (.int x1)], [.int y0], m) Q := by
  refine e_bipush (pc' := 91) (v := 59) (dAt D152 51 rfl) rfl (by decide) ?_
  refine e_icmp_ne (t := 111) (pc' := 94) (dAt D152 52 rfl) ⟨by decide, by decide⟩ rfl (fun c => ?_) (fun c => ?_)
  · replace h := h.1 c
    refine e_aload_n (pc' := 112) (dAt D152 62 rfl) rfl rfl ?_
    exact e_call2 h (dAt D152 63 rfl) (hi0 rfl) rfl G154 (by decide) rfl (Nat.le_of_ble_eq_true rfl) (kV hOx0 rfl rfl) rfl rfl
  · replace h := h.2 c
    refine e_aload_n (pc' := 95) (dAt D152 53 rfl) rfl rfl ?_
    refine e_dup (pc' := 96) (dAt D152 54 rfl) rfl rfl ?_
    refine e_getfield (pc' := 99) (dAt D152 55 rfl) rfl rfl hOx0 (hT.int hOx0 3 (by decide)) ?_
    refine e_iconst (pc' := 100) (v := 1) (dAt D152 56 rfl) rfl (by decide) ?_
    refine e_iadd (pc' := 101) (dAt D152 57 rfl) rfl ?_
    replace h := h _ rfl
    refine e_putfield (pc' := 104) (dAt D152 58 rfl) rfl rfl hOx0 rfl rfl (fun e => by cases e) ?_
    refine wtF hT hOx0 (by decide) (fun hT_2 => ?_)
    refine e_aload_n (pc' := 105) (dAt D152 59 rfl) rfl rfl ?_
    exact e_call2 h (dAt D152 60 rfl) (hi0 rfl) rfl G153 (by decide) rfl (Nat.le_of_ble_eq_true rfl) (kV hOx0 rfl rfl) rfl rfl
-- PlaceNetsModel.net.()I, from 108
set_option maxRecDepth 20000 in
theorem bk152_108 {d b : Nat} {Q : Option Value → mMem → Prop} {m : mMem} {x0 : Nat} {x1 : Int32} (hT : mWT m) (hOx0 : m.1 x0 = some (.inr 8) ∧ x0 ≠ 0)
    (h : mEs d 152 b g152 (78, [some (.ref x0), some (.int x1)], [], m) Q) :
    mEs d 152 b g152 (108, [some (.ref x0), some (.int x1)], [], m) Q := by
  refine e_goto (t := 78) (dAt D152 61 rfl) ⟨by decide, by decide⟩ ?_
  exact h
-- PlaceNetsModel.net.()I, from 115
set_option maxRecDepth 20000 in
theorem bk152_115 {d b : Nat} {Q : Option Value → mMem → Prop} {m : mMem} {x0 : Nat} {x1 : Int32} {y0 : Int32} (hT : mWT m) (hOx0 : m.1 x0 = some (.inr 8) ∧ x0 ≠ 0)
    (h : ((((iF m x0 5) = 0) → (mEs d 152 b g152 (149, [some (.ref x0), some (.int x1)], [], m) Q)) ∧ (¬ ((iF m x0 5) = 0) → ((((iF m x0 3) < (iF m x0 2)) → (mEv d 156 [.ref x0, .int (iF m x0 3)] m (fun r m' => mEs d 152 b g152 (149, [some (.ref x0), some (.int x1)], r.toList ++ [], m') Q))) ∧ (¬ ((iF m x0 3) < (iF m x0 2)) → (((¬ (iF m x0 13) = 0) → (mEs d 152 b g152 (149, [some (.ref x0), some (.int x1)], [], m) Q)) ∧ (¬ (¬ (iF m x0 13) = 0) → (mEv d 156 [.ref x0, .int (iF m x0 3)] m (fun r m' => mEs d 152 b g152 (149, [some (.ref x0), some (.int x1)], r.toList ++ [], m') Q))))))))) :
    mEs d 152 b g152 (115, [some (.ref x0), some (.int x1)], [.int y0], m) Q := by
  refine e_pop (pc' := 116) (dAt D152 64 rfl) rfl rfl ?_
  refine e_aload_n (pc' := 117) (dAt D152 65 rfl) rfl rfl ?_
  refine e_getfield (pc' := 120) (dAt D152 66 rfl) rfl rfl hOx0 (hT.int hOx0 5 (by decide)) ?_
  refine e_if_eq (t := 149) (pc' := 123) (dAt D152 67 rfl) ⟨by decide, by decide⟩ rfl (fun c => ?_) (fun c => ?_)
  · replace h := h.1 c
    exact h
  · replace h := h.2 c
    refine e_aload_n (pc' := 124) (dAt D152 68 rfl) rfl rfl ?_
    refine e_getfield (pc' := 127) (dAt D152 69 rfl) rfl rfl hOx0 (hT.int hOx0 3 (by decide)) ?_
    refine e_aload_n (pc' := 128) (dAt D152 70 rfl) rfl rfl ?_
    refine e_getfield (pc' := 131) (dAt D152 71 rfl) rfl rfl hOx0 (hT.int hOx0 2 (by decide)) ?_
    refine e_icmp_lt (t := 141) (pc' := 134) (dAt D152 72 rfl) ⟨by decide, by decide⟩ rfl (fun c => ?_) (fun c => ?_)
    · replace h := h.1 c
      refine e_aload_n (pc' := 142) (dAt D152 76 rfl) rfl rfl ?_
      refine e_aload_n (pc' := 143) (dAt D152 77 rfl) rfl rfl ?_
      refine e_getfield (pc' := 146) (dAt D152 78 rfl) rfl rfl hOx0 (hT.int hOx0 3 (by decide)) ?_
      exact e_call2 h (dAt D152 79 rfl) (hi0 rfl) rfl G156 (by decide) rfl (Nat.le_of_ble_eq_true rfl) (kV hOx0 rfl rfl) rfl rfl
    · replace h := h.2 c
      refine e_aload_n (pc' := 135) (dAt D152 73 rfl) rfl rfl ?_
      refine e_getfield (pc' := 138) (dAt D152 74 rfl) rfl rfl hOx0 (hT.int hOx0 13 (by decide)) ?_
      refine e_if_ne (t := 149) (pc' := 141) (dAt D152 75 rfl) ⟨by decide, by decide⟩ rfl (fun c => ?_) (fun c => ?_)
      · replace h := h.1 c
        exact h
      · replace h := h.2 c
        refine e_aload_n (pc' := 142) (dAt D152 76 rfl) rfl rfl ?_
        refine e_aload_n (pc' := 143) (dAt D152 77 rfl) rfl rfl ?_
        refine e_getfield (pc' := 146) (dAt D152 78 rfl) rfl rfl hOx0 (hT.int hOx0 3 (by decide)) ?_
        exact e_call2 h (dAt D152 79 rfl) (hi0 rfl) rfl G156 (by decide) rfl (Nat.le_of_ble_eq_true rfl) (kV hOx0 rfl rfl) rfl rfl
-- PlaceNetsModel.net.()I, from 149
set_option maxRecDepth 20000 in
theorem bk152_149 {d b : Nat} {Q : Option Value → mMem → Prop} {m : mMem} {x0 : Nat} {x1 : Int32} (hT : mWT m) (hOx0 : m.1 x0 = some (.inr 8) ∧ x0 ≠ 0)
    (h : ∀ (m_1 : mMem), m_1 = (mSetF m x0 2 (.int 0)) → (((¬ (iF m_1 x0 5) = 0) → (mEv d 157 [.ref x0] m_1 (fun r m' => mEs d 152 b g152 (174, [some (.ref x0), some (.int x1)], r.toList ++ [], m') Q))) ∧ (¬ (¬ (iF m_1 x0 5) = 0) → (Q (some (.int (((-1000)) - (iF m_1 x0 4)))) m_1)))) :
    mEs d 152 b g152 (149, [some (.ref x0), some (.int x1)], [], m) Q := by
  refine e_aload_n (pc' := 150) (dAt D152 80 rfl) rfl rfl ?_
  refine e_iconst (pc' := 151) (v := 0) (dAt D152 81 rfl) rfl (by decide) ?_
  replace h := h _ rfl
  refine e_putfield (pc' := 154) (dAt D152 82 rfl) rfl rfl hOx0 rfl rfl (fun e => by cases e) ?_
  refine wtF hT hOx0 (by decide) (fun hT_2 => ?_)
  refine e_aload_n (pc' := 155) (dAt D152 83 rfl) rfl rfl ?_
  refine e_getfield (pc' := 158) (dAt D152 84 rfl) rfl rfl hOx0 (hT_2.int hOx0 5 (by decide)) ?_
  refine e_if_ne (t := 170) (pc' := 161) (dAt D152 85 rfl) ⟨by decide, by decide⟩ rfl (fun c => ?_) (fun c => ?_)
  · replace h := h.1 c
    refine e_aload_n (pc' := 171) (dAt D152 91 rfl) rfl rfl ?_
    exact e_call2 h (dAt D152 92 rfl) (hi0 rfl) rfl G157 (by decide) rfl (Nat.le_of_ble_eq_true rfl) (kV hOx0 rfl rfl) rfl rfl
  · replace h := h.2 c
    refine e_sipush (pc' := 164) (v := (-1000)) (dAt D152 86 rfl) rfl (by decide) ?_
    refine e_aload_n (pc' := 165) (dAt D152 87 rfl) rfl rfl ?_
    refine e_getfield (pc' := 168) (dAt D152 88 rfl) rfl rfl hOx0 (hT_2.int hOx0 4 (by decide)) ?_
    refine e_isub (pc' := 169) (dAt D152 89 rfl) rfl ?_
    exact e_ireturn (dAt D152 90 rfl) rfl ⟨rfl, fun e => by cases e⟩ h
-- PlaceNetsModel.net.()I, from 174
set_option maxRecDepth 20000 in
theorem bk152_174 {d b : Nat} {Q : Option Value → mMem → Prop} {m : mMem} {x0 : Nat} {x1 : Int32} (hT : mWT m) (hOx0 : m.1 x0 = some (.inr 8) ∧ x0 ≠ 0)
    (h : Q (some (.int (iF m x0 7))) m) :
    mEs d 152 b g152 (174, [some (.ref x0), some (.int x1)], [], m) Q := by
  refine e_aload_n (pc' := 175) (dAt D152 93 rfl) rfl rfl ?_
  refine e_getfield (pc' := 178) (dAt D152 94 rfl) rfl rfl hOx0 (hT.int hOx0 7 (by decide)) ?_
  exact e_ireturn (dAt D152 95 rfl) rfl ⟨rfl, fun e => by cases e⟩ h
-- PlaceNetsModel.readPart.()V, from 0
set_option maxRecDepth 20000 in
theorem bk153_0 {d b : Nat} {Q : Option Value → mMem → Prop} {m : mMem} {x0 : Nat} {x1 : Option Value} (hT : mWT m) (hOx0 : m.1 x0 = some (.inr 8) ∧ x0 ≠ 0)
    (h : mEv d 154 [.ref x0] m (fun r m' => mEs d 153 b g153 (4, [some (.ref x0), x1], r.toList ++ [], m') Q)) :
    mEs d 153 b g153 (0, [some (.ref x0), x1], [], m) Q := by
  refine e_aload_n (pc' := 1) (dAt D153 0 rfl) rfl rfl ?_
  exact e_call2 h (dAt D153 1 rfl) (hi0 rfl) rfl G154 (by decide) rfl (Nat.le_of_ble_eq_true rfl) (kV hOx0 rfl rfl) rfl rfl
-- PlaceNetsModel.readPart.()V, from 4
set_option maxRecDepth 20000 in
theorem bk153_4 {d b : Nat} {Q : Option Value → mMem → Prop} {m : mMem} {x0 : Nat} {x1 : Option Value} {y0 : Int32} (hT : mWT m) (hOx0 : m.1 x0 = some (.inr 8) ∧ x0 ≠ 0)
    (h : (((¬ y0 = 109) → (∀ (v_1 : Int32), v_1 = (10 * (iF m x0 14)) → mEv d 155 [.ref x0, .ref (64 * x0 + 7), .int v_1, .int 9] m (fun r m' => mEs d 153 b g153 (50, [some (.ref x0), some (.int v_1)], r.toList ++ [], m') Q))) ∧ (¬ (¬ y0 = 109) → (∀ (m_2 : mMem), m_2 = (mSetF m x0 3 (.int ((iF m x0 3) + 1))) → mEv d 155 [.ref x0, .ref (64 * x0 + 9), .int 0, .int 99] m_2 (fun r m' => mEs d 153 b g153 (30, [some (.ref x0), x1], r.toList ++ [], m') Q))))) :
    mEs d 153 b g153 (4, [some (.ref x0), x1], [.int y0], m) Q := by
  refine e_bipush (pc' := 6) (v := 109) (dAt D153 2 rfl) rfl (by decide) ?_
  refine e_icmp_ne (t := 31) (pc' := 9) (dAt D153 3 rfl) ⟨by decide, by decide⟩ rfl (fun c => ?_) (fun c => ?_)
  · replace h := h.1 c
    refine e_bipush (pc' := 33) (v := 10) (dAt D153 17 rfl) rfl (by decide) ?_
    refine e_aload_n (pc' := 34) (dAt D153 18 rfl) rfl rfl ?_
    refine e_getfield (pc' := 37) (dAt D153 19 rfl) rfl rfl hOx0 (hT.int hOx0 14 (by decide)) ?_
    refine e_imul (pc' := 38) (dAt D153 20 rfl) rfl ?_
    replace h := h _ rfl
    refine e_istore_n (pc' := 39) (dAt D153 21 rfl) rfl (Nat.le_of_ble_eq_true rfl) rfl ?_
    refine e_aload_n (pc' := 40) (dAt D153 22 rfl) rfl rfl ?_
    refine e_aload_n (pc' := 41) (dAt D153 23 rfl) rfl rfl ?_
    refine e_getfield (pc' := 44) (dAt D153 24 rfl) rfl rfl hOx0 (hT.own hOx0 6 rfl) ?_
    refine e_iload_n (pc' := 45) (dAt D153 25 rfl) rfl rfl ?_
    refine e_bipush (pc' := 47) (v := 9) (dAt D153 26 rfl) rfl (by decide) ?_
    exact e_call2 h (dAt D153 27 rfl) (hi0 rfl) rfl G155 (by decide) rfl (Nat.le_of_ble_eq_true rfl) (kV hOx0 rfl rfl) rfl rfl
  · replace h := h.2 c
    refine e_aload_n (pc' := 10) (dAt D153 4 rfl) rfl rfl ?_
    refine e_dup (pc' := 11) (dAt D153 5 rfl) rfl rfl ?_
    refine e_getfield (pc' := 14) (dAt D153 6 rfl) rfl rfl hOx0 (hT.int hOx0 3 (by decide)) ?_
    refine e_iconst (pc' := 15) (v := 1) (dAt D153 7 rfl) rfl (by decide) ?_
    refine e_iadd (pc' := 16) (dAt D153 8 rfl) rfl ?_
    replace h := h _ rfl
    refine e_putfield (pc' := 19) (dAt D153 9 rfl) rfl rfl hOx0 rfl rfl (fun e => by cases e) ?_
    refine wtF hT hOx0 (by decide) (fun hT_3 => ?_)
    refine e_aload_n (pc' := 20) (dAt D153 10 rfl) rfl rfl ?_
    refine e_aload_n (pc' := 21) (dAt D153 11 rfl) rfl rfl ?_
    refine e_getfield (pc' := 24) (dAt D153 12 rfl) rfl rfl hOx0 (hT_3.own hOx0 8 rfl) ?_
    refine e_iconst (pc' := 25) (v := 0) (dAt D153 13 rfl) rfl (by decide) ?_
    refine e_bipush (pc' := 27) (v := 99) (dAt D153 14 rfl) rfl (by decide) ?_
    exact e_call2 h (dAt D153 15 rfl) (hi0 rfl) rfl G155 (by decide) rfl (Nat.le_of_ble_eq_true rfl) (kV hOx0 rfl rfl) rfl rfl
-- PlaceNetsModel.readPart.()V, from 30
set_option maxRecDepth 20000 in
theorem bk153_30 {d b : Nat} {Q : Option Value → mMem → Prop} {m : mMem} {x0 : Nat} {x1 : Option Value} (hT : mWT m) (hOx0 : m.1 x0 = some (.inr 8) ∧ x0 ≠ 0)
    (h : Q none m) :
    mEs d 153 b g153 (30, [some (.ref x0), x1], [], m) Q := by
  exact e_return (dAt D153 16 rfl) rfl h
-- PlaceNetsModel.readPart.()V, from 50
set_option maxRecDepth 20000 in
theorem bk153_50 {d b : Nat} {Q : Option Value → mMem → Prop} {m : mMem} {x0 : Nat} {x1 : Int32} (hT : mWT m) (hOx0 : m.1 x0 = some (.inr 8) ∧ x0 ≠ 0)
    (h : (((¬ (iF m x0 5) = 0) → (mEv d 154 [.ref x0] m (fun r m' => mEs d 153 b g153 (62, [some (.ref x0), some (.int x1)], r.toList ++ [], m') Q))) ∧ (¬ (¬ (iF m x0 5) = 0) → (Q none m)))) :
    mEs d 153 b g153 (50, [some (.ref x0), some (.int x1)], [], m) Q := by
  refine e_aload_n (pc' := 51) (dAt D153 28 rfl) rfl rfl ?_
  refine e_getfield (pc' := 54) (dAt D153 29 rfl) rfl rfl hOx0 (hT.int hOx0 5 (by decide)) ?_
  refine e_if_ne (t := 58) (pc' := 57) (dAt D153 30 rfl) ⟨by decide, by decide⟩ rfl (fun c => ?_) (fun c => ?_)
  · replace h := h.1 c
    refine e_aload_n (pc' := 59) (dAt D153 32 rfl) rfl rfl ?_
    exact e_call2 h (dAt D153 33 rfl) (hi0 rfl) rfl G154 (by decide) rfl (Nat.le_of_ble_eq_true rfl) (kV hOx0 rfl rfl) rfl rfl
  · replace h := h.2 c
    exact e_return (dAt D153 31 rfl) rfl h
-- PlaceNetsModel.readPart.()V, from 62
set_option maxRecDepth 20000 in
theorem bk153_62 {d b : Nat} {Q : Option Value → mMem → Prop} {m : mMem} {x0 : Nat} {x1 : Int32} {y0 : Int32} (hT : mWT m) (hOx0 : m.1 x0 = some (.inr 8) ∧ x0 ≠ 0)
    (h : (((¬ y0 = 62) → (mEv d 156 [.ref x0, .int (iF m x0 3)] m (fun r m' => mEs d 153 b g153 (84, [some (.ref x0), some (.int x1)], r.toList ++ [], m') Q))) ∧ (¬ (¬ y0 = 62) → (((¬ (iF m x0 14) = 10) → (∀ (m_1 : mMem), m_1 = (mSetF m x0 3 (.int ((iF m x0 3) + 1))) → mEv d 155 [.ref x0, .ref (64 * x0 + 8), .int x1, .int 9] m_1 (fun r m' => mEs d 153 b g153 (106, [some (.ref x0), some (.int x1)], r.toList ++ [], m') Q))) ∧ (¬ (¬ (iF m x0 14) = 10) → (mEv d 156 [.ref x0, .int (iF m x0 3)] m (fun r m' => mEs d 153 b g153 (84, [some (.ref x0), some (.int x1)], r.toList ++ [], m') Q))))))) :
    mEs d 153 b g153 (62, [some (.ref x0), some (.int x1)], [.int y0], m) Q := by
  refine e_bipush (pc' := 64) (v := 62) (dAt D153 34 rfl) rfl (by decide) ?_
  refine e_icmp_ne (t := 76) (pc' := 67) (dAt D153 35 rfl) ⟨by decide, by decide⟩ rfl (fun c => ?_) (fun c => ?_)
  · replace h := h.1 c
    refine e_aload_n (pc' := 77) (dAt D153 40 rfl) rfl rfl ?_
    refine e_aload_n (pc' := 78) (dAt D153 41 rfl) rfl rfl ?_
    refine e_getfield (pc' := 81) (dAt D153 42 rfl) rfl rfl hOx0 (hT.int hOx0 3 (by decide)) ?_
    exact e_call2 h (dAt D153 43 rfl) (hi0 rfl) rfl G156 (by decide) rfl (Nat.le_of_ble_eq_true rfl) (kV hOx0 rfl rfl) rfl rfl
  · replace h := h.2 c
    refine e_aload_n (pc' := 68) (dAt D153 36 rfl) rfl rfl ?_
    refine e_getfield (pc' := 71) (dAt D153 37 rfl) rfl rfl hOx0 (hT.int hOx0 14 (by decide)) ?_
    refine e_bipush (pc' := 73) (v := 10) (dAt D153 38 rfl) rfl (by decide) ?_
    refine e_icmp_ne (t := 85) (pc' := 76) (dAt D153 39 rfl) ⟨by decide, by decide⟩ rfl (fun c => ?_) (fun c => ?_)
    · replace h := h.1 c
      refine e_aload_n (pc' := 86) (dAt D153 45 rfl) rfl rfl ?_
      refine e_dup (pc' := 87) (dAt D153 46 rfl) rfl rfl ?_
      refine e_getfield (pc' := 90) (dAt D153 47 rfl) rfl rfl hOx0 (hT.int hOx0 3 (by decide)) ?_
      refine e_iconst (pc' := 91) (v := 1) (dAt D153 48 rfl) rfl (by decide) ?_
      refine e_iadd (pc' := 92) (dAt D153 49 rfl) rfl ?_
      replace h := h _ rfl
      refine e_putfield (pc' := 95) (dAt D153 50 rfl) rfl rfl hOx0 rfl rfl (fun e => by cases e) ?_
      refine wtF hT hOx0 (by decide) (fun hT_2 => ?_)
      refine e_aload_n (pc' := 96) (dAt D153 51 rfl) rfl rfl ?_
      refine e_aload_n (pc' := 97) (dAt D153 52 rfl) rfl rfl ?_
      refine e_getfield (pc' := 100) (dAt D153 53 rfl) rfl rfl hOx0 (hT_2.own hOx0 7 rfl) ?_
      refine e_iload_n (pc' := 101) (dAt D153 54 rfl) rfl rfl ?_
      refine e_bipush (pc' := 103) (v := 9) (dAt D153 55 rfl) rfl (by decide) ?_
      exact e_call2 h (dAt D153 56 rfl) (hi0 rfl) rfl G155 (by decide) rfl (Nat.le_of_ble_eq_true rfl) (kV hOx0 rfl rfl) rfl rfl
    · replace h := h.2 c
      refine e_aload_n (pc' := 77) (dAt D153 40 rfl) rfl rfl ?_
      refine e_aload_n (pc' := 78) (dAt D153 41 rfl) rfl rfl ?_
      refine e_getfield (pc' := 81) (dAt D153 42 rfl) rfl rfl hOx0 (hT.int hOx0 3 (by decide)) ?_
      exact e_call2 h (dAt D153 43 rfl) (hi0 rfl) rfl G156 (by decide) rfl (Nat.le_of_ble_eq_true rfl) (kV hOx0 rfl rfl) rfl rfl
-- PlaceNetsModel.readPart.()V, from 84
set_option maxRecDepth 20000 in
theorem bk153_84 {d b : Nat} {Q : Option Value → mMem → Prop} {m : mMem} {x0 : Nat} {x1 : Int32} (hT : mWT m) (hOx0 : m.1 x0 = some (.inr 8) ∧ x0 ≠ 0)
    (h : Q none m) :
    mEs d 153 b g153 (84, [some (.ref x0), some (.int x1)], [], m) Q := by
  exact e_return (dAt D153 44 rfl) rfl h
-- PlaceNetsModel.readPart.()V, from 106
set_option maxRecDepth 20000 in
theorem bk153_106 {d b : Nat} {Q : Option Value → mMem → Prop} {m : mMem} {x0 : Nat} {x1 : Int32} (hT : mWT m) (hOx0 : m.1 x0 = some (.inr 8) ∧ x0 ≠ 0)
    (h : ∀ (m_1 : mMem), m_1 = (mSetF m x0 14 (.int ((iF m x0 14) + 1))) → Q none m_1) :
    mEs d 153 b g153 (106, [some (.ref x0), some (.int x1)], [], m) Q := by
  refine e_aload_n (pc' := 107) (dAt D153 57 rfl) rfl rfl ?_
  refine e_dup (pc' := 108) (dAt D153 58 rfl) rfl rfl ?_
  refine e_getfield (pc' := 111) (dAt D153 59 rfl) rfl rfl hOx0 (hT.int hOx0 14 (by decide)) ?_
  refine e_iconst (pc' := 112) (v := 1) (dAt D153 60 rfl) rfl (by decide) ?_
  refine e_iadd (pc' := 113) (dAt D153 61 rfl) rfl ?_
  replace h := h _ rfl
  refine e_putfield (pc' := 116) (dAt D153 62 rfl) rfl rfl hOx0 rfl rfl (fun e => by cases e) ?_
  refine wtF hT hOx0 (by decide) (fun hT_2 => ?_)
  exact e_return (dAt D153 63 rfl) rfl h
-- PlaceNetsModel.next.()I, from 0
set_option maxRecDepth 20000 in
theorem bk154_0 {d b : Nat} {Q : Option Value → mMem → Prop} {m : mMem} {x0 : Nat} (hT : mWT m) (hOx0 : m.1 x0 = some (.inr 8) ∧ x0 ≠ 0)
    (h : ((((iF m x0 2) ≤ (iF m x0 3)) → ((((iF m x0 2) ≤ (iF m x0 3)) → (Q (some (.int 0)) m)) ∧ (¬ ((iF m x0 2) ≤ (iF m x0 3)) → ((mIn (iF m x0 3) 240 = true) ∧ (Q (some (.int (m.2.2.1 (64 * x0 + 1) (iF m x0 3).toNatClampNeg))) m))))) ∧ (¬ ((iF m x0 2) ≤ (iF m x0 3)) → ((mIn (iF m x0 3) 240 = true) ∧ (((¬ (m.2.2.1 (64 * x0 + 1) (iF m x0 3).toNatClampNeg) = 32) → ((((iF m x0 2) ≤ (iF m x0 3)) → (Q (some (.int 0)) m)) ∧ (¬ ((iF m x0 2) ≤ (iF m x0 3)) → ((mIn (iF m x0 3) 240 = true) ∧ (Q (some (.int (m.2.2.1 (64 * x0 + 1) (iF m x0 3).toNatClampNeg))) m))))) ∧ (¬ (¬ (m.2.2.1 (64 * x0 + 1) (iF m x0 3).toNatClampNeg) = 32) → (∀ (m_1 : mMem), m_1 = (mSetF m x0 3 (.int ((iF m x0 3) + 1))) → mEs d 154 b g154 (0, [some (.ref x0)], [], m_1) Q))))))) :
    mEs d 154 b g154 (0, [some (.ref x0)], [], m) Q := by
  refine e_aload_n (pc' := 1) (dAt D154 0 rfl) rfl rfl ?_
  refine e_getfield (pc' := 4) (dAt D154 1 rfl) rfl rfl hOx0 (hT.int hOx0 3 (by decide)) ?_
  refine e_aload_n (pc' := 5) (dAt D154 2 rfl) rfl rfl ?_
  refine e_getfield (pc' := 8) (dAt D154 3 rfl) rfl rfl hOx0 (hT.int hOx0 2 (by decide)) ?_
  refine e_icmp_ge (t := 38) (pc' := 11) (dAt D154 4 rfl) ⟨by decide, by decide⟩ rfl (fun c => ?_) (fun c => ?_)
  · replace h := h.1 c
    refine e_aload_n (pc' := 39) (dAt D154 19 rfl) rfl rfl ?_
    refine e_getfield (pc' := 42) (dAt D154 20 rfl) rfl rfl hOx0 (hT.int hOx0 3 (by decide)) ?_
    refine e_aload_n (pc' := 43) (dAt D154 21 rfl) rfl rfl ?_
    refine e_getfield (pc' := 46) (dAt D154 22 rfl) rfl rfl hOx0 (hT.int hOx0 2 (by decide)) ?_
    refine e_icmp_ge (t := 61) (pc' := 49) (dAt D154 23 rfl) ⟨by decide, by decide⟩ rfl (fun c => ?_) (fun c => ?_)
    · replace h := h.1 c
      refine e_iconst (pc' := 62) (v := 0) (dAt D154 30 rfl) rfl (by decide) ?_
      exact e_ireturn (dAt D154 31 rfl) rfl ⟨rfl, fun e => by cases e⟩ h
    · replace h := h.2 c
      refine e_aload_n (pc' := 50) (dAt D154 24 rfl) rfl rfl ?_
      refine e_getfield (pc' := 53) (dAt D154 25 rfl) rfl rfl hOx0 (hT.own hOx0 0 rfl) ?_
      refine e_aload_n (pc' := 54) (dAt D154 26 rfl) rfl rfl ?_
      refine e_getfield (pc' := 57) (dAt D154 27 rfl) rfl rfl hOx0 (hT.int hOx0 3 (by decide)) ?_
      obtain ⟨f1, h⟩ := h
      refine e_baload (pc' := 58) (dAt D154 28 rfl) rfl (hT.arr hOx0 0 rfl (by decide)).1 (Or.inl (hT.arr hOx0 0 rfl (by decide)).2) f1 rfl ?_
      refine e_goto (t := 62) (dAt D154 29 rfl) ⟨by decide, by decide⟩ ?_
      exact e_ireturn (dAt D154 31 rfl) rfl ⟨rfl, fun e => by cases e⟩ h
  · replace h := h.2 c
    refine e_aload_n (pc' := 12) (dAt D154 5 rfl) rfl rfl ?_
    refine e_getfield (pc' := 15) (dAt D154 6 rfl) rfl rfl hOx0 (hT.own hOx0 0 rfl) ?_
    refine e_aload_n (pc' := 16) (dAt D154 7 rfl) rfl rfl ?_
    refine e_getfield (pc' := 19) (dAt D154 8 rfl) rfl rfl hOx0 (hT.int hOx0 3 (by decide)) ?_
    obtain ⟨f1, h⟩ := h
    refine e_baload (pc' := 20) (dAt D154 9 rfl) rfl (hT.arr hOx0 0 rfl (by decide)).1 (Or.inl (hT.arr hOx0 0 rfl (by decide)).2) f1 rfl ?_
    refine e_bipush (pc' := 22) (v := 32) (dAt D154 10 rfl) rfl (by decide) ?_
    refine e_icmp_ne (t := 38) (pc' := 25) (dAt D154 11 rfl) ⟨by decide, by decide⟩ rfl (fun c => ?_) (fun c => ?_)
    · replace h := h.1 c
      refine e_aload_n (pc' := 39) (dAt D154 19 rfl) rfl rfl ?_
      refine e_getfield (pc' := 42) (dAt D154 20 rfl) rfl rfl hOx0 (hT.int hOx0 3 (by decide)) ?_
      refine e_aload_n (pc' := 43) (dAt D154 21 rfl) rfl rfl ?_
      refine e_getfield (pc' := 46) (dAt D154 22 rfl) rfl rfl hOx0 (hT.int hOx0 2 (by decide)) ?_
      refine e_icmp_ge (t := 61) (pc' := 49) (dAt D154 23 rfl) ⟨by decide, by decide⟩ rfl (fun c => ?_) (fun c => ?_)
      · replace h := h.1 c
        refine e_iconst (pc' := 62) (v := 0) (dAt D154 30 rfl) rfl (by decide) ?_
        exact e_ireturn (dAt D154 31 rfl) rfl ⟨rfl, fun e => by cases e⟩ h
      · replace h := h.2 c
        refine e_aload_n (pc' := 50) (dAt D154 24 rfl) rfl rfl ?_
        refine e_getfield (pc' := 53) (dAt D154 25 rfl) rfl rfl hOx0 (hT.own hOx0 0 rfl) ?_
        refine e_aload_n (pc' := 54) (dAt D154 26 rfl) rfl rfl ?_
        refine e_getfield (pc' := 57) (dAt D154 27 rfl) rfl rfl hOx0 (hT.int hOx0 3 (by decide)) ?_
        obtain ⟨f1, h⟩ := h
        refine e_baload (pc' := 58) (dAt D154 28 rfl) rfl (hT.arr hOx0 0 rfl (by decide)).1 (Or.inl (hT.arr hOx0 0 rfl (by decide)).2) f1 rfl ?_
        refine e_goto (t := 62) (dAt D154 29 rfl) ⟨by decide, by decide⟩ ?_
        exact e_ireturn (dAt D154 31 rfl) rfl ⟨rfl, fun e => by cases e⟩ h
    · replace h := h.2 c
      refine e_aload_n (pc' := 26) (dAt D154 12 rfl) rfl rfl ?_
      refine e_dup (pc' := 27) (dAt D154 13 rfl) rfl rfl ?_
      refine e_getfield (pc' := 30) (dAt D154 14 rfl) rfl rfl hOx0 (hT.int hOx0 3 (by decide)) ?_
      refine e_iconst (pc' := 31) (v := 1) (dAt D154 15 rfl) rfl (by decide) ?_
      refine e_iadd (pc' := 32) (dAt D154 16 rfl) rfl ?_
      replace h := h _ rfl
      refine e_putfield (pc' := 35) (dAt D154 17 rfl) rfl rfl hOx0 rfl rfl (fun e => by cases e) ?_
      refine wtF hT hOx0 (by decide) (fun hT_2 => ?_)
      refine e_goto (t := 0) (dAt D154 18 rfl) ⟨by decide, by decide⟩ ?_
      exact h
-- PlaceNetsModel.readTokens.([III)V, from 0
set_option maxRecDepth 20000 in
theorem bk155_0 {d b : Nat} {Q : Option Value → mMem → Prop} {m : mMem} {x0 : Nat} {x1 : Nat} {lx1 : Nat} {x2 : Int32} {x3 : Int32} {x4 : Option Value} {x5 : Option Value} {x6 : Option Value} (hT : mWT m) (hOx0 : m.1 x0 = some (.inr 8) ∧ x0 ≠ 0) (hAx1 : m.1 x1 = some (.inl (.int, lx1)) ∧ x1 ≠ 0)
    (h : ((((iF m x0 5) = 0) → (Q none m)) ∧ (¬ ((iF m x0 5) = 0) → (mEv d 154 [.ref x0] m (fun r m' => mEs d 155 b g155 (11, [some (.ref x0), some (.ref x1), some (.int x2), some (.int x3), x4, x5, x6], r.toList ++ [], m') Q))))) :
    mEs d 155 b g155 (0, [some (.ref x0), some (.ref x1), some (.int x2), some (.int x3), x4, x5, x6], [], m) Q := by
  refine e_aload_n (pc' := 1) (dAt D155 0 rfl) rfl rfl ?_
  refine e_getfield (pc' := 4) (dAt D155 1 rfl) rfl rfl hOx0 (hT.int hOx0 5 (by decide)) ?_
  refine e_if_eq (t := 170) (pc' := 7) (dAt D155 2 rfl) ⟨by decide, by decide⟩ rfl (fun c => ?_) (fun c => ?_)
  · replace h := h.1 c
    exact e_return (dAt D155 92 rfl) rfl h
  · replace h := h.2 c
    refine e_aload_n (pc' := 8) (dAt D155 3 rfl) rfl rfl ?_
    exact e_call2 h (dAt D155 4 rfl) (hi0 rfl) rfl G154 (by decide) rfl (Nat.le_of_ble_eq_true rfl) (kV hOx0 rfl rfl) rfl rfl
-- PlaceNetsModel.readTokens.([III)V, from 11
set_option maxRecDepth 20000 in
theorem bk155_11 {d b : Nat} {Q : Option Value → mMem → Prop} {m : mMem} {x0 : Nat} {x1 : Nat} {lx1 : Nat} {x2 : Int32} {x3 : Int32} {x4 : Option Value} {x5 : Option Value} {x6 : Option Value} {y0 : Int32} (hT : mWT m) (hOx0 : m.1 x0 = some (.inr 8) ∧ x0 ≠ 0) (hAx1 : m.1 x1 = some (.inl (.int, lx1)) ∧ x1 ≠ 0)
    (h : mEv d 151 [.long y0.toInt64, .long 65, .long 74] m (fun r m' => mEs d 155 b g155 (21, [some (.ref x0), some (.ref x1), some (.int x2), some (.int x3), x4, x5, x6], r.toList ++ [], m') Q)) :
    mEs d 155 b g155 (11, [some (.ref x0), some (.ref x1), some (.int x2), some (.int x3), x4, x5, x6], [.int y0], m) Q := by
  refine e_i2l (pc' := 12) (dAt D155 5 rfl) rfl ?_
  refine e_ldc2_w (pc' := 15) (dAt D155 6 rfl) rfl rfl ?_
  refine e_ldc2_w (pc' := 18) (dAt D155 7 rfl) rfl rfl ?_
  exact e_call2 h (dAt D155 8 rfl) (hi2 rfl) rfl G151 (by decide) rfl (Nat.le_of_ble_eq_true rfl) rfl rfl rfl
-- PlaceNetsModel.readTokens.([III)V, from 21
set_option maxRecDepth 20000 in
theorem bk155_21 {d b : Nat} {Q : Option Value → mMem → Prop} {m : mMem} {x0 : Nat} {x1 : Nat} {lx1 : Nat} {x2 : Int32} {x3 : Int32} {x4 : Option Value} {x5 : Option Value} {x6 : Option Value} {y0 : Int32} (hT : mWT m) (hOx0 : m.1 x0 = some (.inr 8) ∧ x0 ≠ 0) (hAx1 : m.1 x1 = some (.inl (.int, lx1)) ∧ x1 ≠ 0)
    (h : (((y0 = 0) → (Q none m)) ∧ (¬ (y0 = 0) → (∀ (v_1 : Int32), v_1 = (iF m x0 3) → (mIn (iF m x0 3) 240 = true) ∧ (∀ (v_2 : Int32), v_2 = ((m.2.2.1 (64 * x0 + 1) (iF m x0 3).toNatClampNeg) - 65) → ∀ (m_3 : mMem), m_3 = (mSetF m x0 3 (.int ((iF m x0 3) + 1))) → ((((iF m_3 x0 2) ≤ (iF m_3 x0 3)) → ((mIn (x2 + v_2) lx1 = true) ∧ ((mIn (x2 + v_2) lx1 = true) ∧ (∀ (m_5 : mMem), m_5 = (mSetI m_3 x1 (upd (m_3.2.2.1 x1) (x2 + v_2).toNatClampNeg ((m_3.2.2.1 x1 (x2 + v_2).toNatClampNeg) + 1))) → ((((v_2 + 1) ≤ (iF m_5 x0 13)) → (∀ (m_7 : mMem), m_7 = (mSetF m_5 x0 13 (.int (iF m_5 x0 13))) → (mIn (x2 + v_2) lx1 = true) ∧ ((((m_7.2.2.1 x1 (x2 + v_2).toNatClampNeg) ≤ x3) → (mEs d 155 b g155 (167, [some (.ref x0), some (.ref x1), some (.int x2), some (.int x3), some (.int v_1), some (.int v_2), some (.int 1)], [], m_7) Q)) ∧ (¬ ((m_7.2.2.1 x1 (x2 + v_2).toNatClampNeg) ≤ x3) → (mEv d 156 [.ref x0, .int v_1] m_7 (fun r m' => mEs d 155 b g155 (167, [some (.ref x0), some (.ref x1), some (.int x2), some (.int x3), some (.int v_1), some (.int v_2), some (.int 1)], r.toList ++ [], m') Q)))))) ∧ (¬ ((v_2 + 1) ≤ (iF m_5 x0 13)) → (∀ (m_9 : mMem), m_9 = (mSetF m_5 x0 13 (.int (v_2 + 1))) → (mIn (x2 + v_2) lx1 = true) ∧ ((((m_9.2.2.1 x1 (x2 + v_2).toNatClampNeg) ≤ x3) → (mEs d 155 b g155 (167, [some (.ref x0), some (.ref x1), some (.int x2), some (.int x3), some (.int v_1), some (.int v_2), some (.int 1)], [], m_9) Q)) ∧ (¬ ((m_9.2.2.1 x1 (x2 + v_2).toNatClampNeg) ≤ x3) → (mEv d 156 [.ref x0, .int v_1] m_9 (fun r m' => mEs d 155 b g155 (167, [some (.ref x0), some (.ref x1), some (.int x2), some (.int x3), some (.int v_1), some (.int v_2), some (.int 1)], r.toList ++ [], m') Q))))))))))) ∧ (¬ ((iF m_3 x0 2) ≤ (iF m_3 x0 3)) → ((mIn (iF m_3 x0 3) 240 = true) ∧ (mEv d 151 [.long ((m_3.2.2.1 (64 * x0 + 1) (iF m_3 x0 3).toNatClampNeg).toInt64), .long 49, .long 57] m_3 (fun r m' => mEs d 155 b g155 (87, [some (.ref x0), some (.ref x1), some (.int x2), some (.int x3), some (.int v_1), some (.int v_2), some (.int 1)], r.toList ++ [], m') Q)))))))))) :
    mEs d 155 b g155 (21, [some (.ref x0), some (.ref x1), some (.int x2), some (.int x3), x4, x5, x6], [.int y0], m) Q := by
  refine e_if_eq (t := 170) (pc' := 24) (dAt D155 9 rfl) ⟨by decide, by decide⟩ rfl (fun c => ?_) (fun c => ?_)
  · replace h := h.1 c
    exact e_return (dAt D155 92 rfl) rfl h
  · replace h := h.2 c
    refine e_aload_n (pc' := 25) (dAt D155 10 rfl) rfl rfl ?_
    refine e_getfield (pc' := 28) (dAt D155 11 rfl) rfl rfl hOx0 (hT.int hOx0 3 (by decide)) ?_
    replace h := h _ rfl
    refine e_istore (pc' := 30) (dAt D155 12 rfl) rfl (Nat.le_of_ble_eq_true rfl) rfl ?_
    refine e_aload_n (pc' := 31) (dAt D155 13 rfl) rfl rfl ?_
    refine e_getfield (pc' := 34) (dAt D155 14 rfl) rfl rfl hOx0 (hT.own hOx0 0 rfl) ?_
    refine e_aload_n (pc' := 35) (dAt D155 15 rfl) rfl rfl ?_
    refine e_getfield (pc' := 38) (dAt D155 16 rfl) rfl rfl hOx0 (hT.int hOx0 3 (by decide)) ?_
    obtain ⟨f1, h⟩ := h
    refine e_baload (pc' := 39) (dAt D155 17 rfl) rfl (hT.arr hOx0 0 rfl (by decide)).1 (Or.inl (hT.arr hOx0 0 rfl (by decide)).2) f1 rfl ?_
    refine e_bipush (pc' := 41) (v := 65) (dAt D155 18 rfl) rfl (by decide) ?_
    refine e_isub (pc' := 42) (dAt D155 19 rfl) rfl ?_
    replace h := h _ rfl
    refine e_istore (pc' := 44) (dAt D155 20 rfl) rfl (Nat.le_of_ble_eq_true rfl) rfl ?_
    refine e_aload_n (pc' := 45) (dAt D155 21 rfl) rfl rfl ?_
    refine e_dup (pc' := 46) (dAt D155 22 rfl) rfl rfl ?_
    refine e_getfield (pc' := 49) (dAt D155 23 rfl) rfl rfl hOx0 (hT.int hOx0 3 (by decide)) ?_
    refine e_iconst (pc' := 50) (v := 1) (dAt D155 24 rfl) rfl (by decide) ?_
    refine e_iadd (pc' := 51) (dAt D155 25 rfl) rfl ?_
    replace h := h _ rfl
    refine e_putfield (pc' := 54) (dAt D155 26 rfl) rfl rfl hOx0 rfl rfl (fun e => by cases e) ?_
    refine wtF hT hOx0 (by decide) (fun hT_4 => ?_)
    refine e_iconst (pc' := 55) (v := 1) (dAt D155 27 rfl) rfl (by decide) ?_
    refine e_istore (pc' := 57) (dAt D155 28 rfl) rfl (Nat.le_of_ble_eq_true rfl) rfl ?_
    refine e_aload_n (pc' := 58) (dAt D155 29 rfl) rfl rfl ?_
    refine e_getfield (pc' := 61) (dAt D155 30 rfl) rfl rfl hOx0 (hT_4.int hOx0 3 (by decide)) ?_
    refine e_aload_n (pc' := 62) (dAt D155 31 rfl) rfl rfl ?_
    refine e_getfield (pc' := 65) (dAt D155 32 rfl) rfl rfl hOx0 (hT_4.int hOx0 2 (by decide)) ?_
    refine e_icmp_ge (t := 114) (pc' := 68) (dAt D155 33 rfl) ⟨by decide, by decide⟩ rfl (fun c => ?_) (fun c => ?_)
    · replace h := h.1 c
      refine e_aload_n (pc' := 115) (dAt D155 58 rfl) rfl rfl ?_
      refine e_iload_n (pc' := 116) (dAt D155 59 rfl) rfl rfl ?_
      refine e_iload (pc' := 118) (dAt D155 60 rfl) rfl rfl ?_
      refine e_iadd (pc' := 119) (dAt D155 61 rfl) rfl ?_
      refine e_dup2 (pc' := 120) (dAt D155 62 rfl) rfl ⟨rfl, rfl⟩ ?_
      obtain ⟨f1, h⟩ := h
      refine e_iaload (pc' := 121) (dAt D155 63 rfl) rfl hAx1.1 (Or.inl hAx1.2) f1 rfl ?_
      refine e_iload (pc' := 123) (dAt D155 64 rfl) rfl rfl ?_
      refine e_iadd (pc' := 124) (dAt D155 65 rfl) rfl ?_
      obtain ⟨f1, h⟩ := h
      replace h := h _ rfl
      refine e_iastore (pc' := 125) (dAt D155 66 rfl) rfl hAx1.1 hAx1.2 f1 (nar_i _) ?_
      refine wtI hT_4 (fun hT_6 => ?_)
      refine e_aload_n (pc' := 126) (dAt D155 67 rfl) rfl rfl ?_
      refine e_iload (pc' := 128) (dAt D155 68 rfl) rfl rfl ?_
      refine e_iconst (pc' := 129) (v := 1) (dAt D155 69 rfl) rfl (by decide) ?_
      refine e_iadd (pc' := 130) (dAt D155 70 rfl) rfl ?_
      refine e_aload_n (pc' := 131) (dAt D155 71 rfl) rfl rfl ?_
      refine e_getfield (pc' := 134) (dAt D155 72 rfl) rfl rfl hOx0 (hT_6.int hOx0 13 (by decide)) ?_
      refine e_icmp_le (t := 144) (pc' := 137) (dAt D155 73 rfl) ⟨by decide, by decide⟩ rfl (fun c => ?_) (fun c => ?_)
      · replace h := h.1 c
        refine e_aload_n (pc' := 145) (dAt D155 78 rfl) rfl rfl ?_
        refine e_getfield (pc' := 148) (dAt D155 79 rfl) rfl rfl hOx0 (hT_6.int hOx0 13 (by decide)) ?_
        replace h := h _ rfl
        refine e_putfield (pc' := 151) (dAt D155 80 rfl) rfl rfl hOx0 rfl rfl (fun e => by cases e) ?_
        refine wtF hT_6 hOx0 (by decide) (fun hT_8 => ?_)
        refine e_aload_n (pc' := 152) (dAt D155 81 rfl) rfl rfl ?_
        refine e_iload_n (pc' := 153) (dAt D155 82 rfl) rfl rfl ?_
        refine e_iload (pc' := 155) (dAt D155 83 rfl) rfl rfl ?_
        refine e_iadd (pc' := 156) (dAt D155 84 rfl) rfl ?_
        obtain ⟨f1, h⟩ := h
        refine e_iaload (pc' := 157) (dAt D155 85 rfl) rfl hAx1.1 (Or.inl hAx1.2) f1 rfl ?_
        refine e_iload_n (pc' := 158) (dAt D155 86 rfl) rfl rfl ?_
        refine e_icmp_le (t := 167) (pc' := 161) (dAt D155 87 rfl) ⟨by decide, by decide⟩ rfl (fun c => ?_) (fun c => ?_)
        · replace h := h.1 c
          exact h
        · replace h := h.2 c
          refine e_aload_n (pc' := 162) (dAt D155 88 rfl) rfl rfl ?_
          refine e_iload (pc' := 164) (dAt D155 89 rfl) rfl rfl ?_
          exact e_call2 h (dAt D155 90 rfl) (hi0 rfl) rfl G156 (by decide) rfl (Nat.le_of_ble_eq_true rfl) (kV hOx0 rfl rfl) rfl rfl
      · replace h := h.2 c
        refine e_iload (pc' := 139) (dAt D155 74 rfl) rfl rfl ?_
        refine e_iconst (pc' := 140) (v := 1) (dAt D155 75 rfl) rfl (by decide) ?_
        refine e_iadd (pc' := 141) (dAt D155 76 rfl) rfl ?_
        refine e_goto (t := 148) (dAt D155 77 rfl) ⟨by decide, by decide⟩ ?_
        replace h := h _ rfl
        refine e_putfield (pc' := 151) (dAt D155 80 rfl) rfl rfl hOx0 rfl rfl (fun e => by cases e) ?_
        refine wtF hT_6 hOx0 (by decide) (fun hT_10 => ?_)
        refine e_aload_n (pc' := 152) (dAt D155 81 rfl) rfl rfl ?_
        refine e_iload_n (pc' := 153) (dAt D155 82 rfl) rfl rfl ?_
        refine e_iload (pc' := 155) (dAt D155 83 rfl) rfl rfl ?_
        refine e_iadd (pc' := 156) (dAt D155 84 rfl) rfl ?_
        obtain ⟨f1, h⟩ := h
        refine e_iaload (pc' := 157) (dAt D155 85 rfl) rfl hAx1.1 (Or.inl hAx1.2) f1 rfl ?_
        refine e_iload_n (pc' := 158) (dAt D155 86 rfl) rfl rfl ?_
        refine e_icmp_le (t := 167) (pc' := 161) (dAt D155 87 rfl) ⟨by decide, by decide⟩ rfl (fun c => ?_) (fun c => ?_)
        · replace h := h.1 c
          exact h
        · replace h := h.2 c
          refine e_aload_n (pc' := 162) (dAt D155 88 rfl) rfl rfl ?_
          refine e_iload (pc' := 164) (dAt D155 89 rfl) rfl rfl ?_
          exact e_call2 h (dAt D155 90 rfl) (hi0 rfl) rfl G156 (by decide) rfl (Nat.le_of_ble_eq_true rfl) (kV hOx0 rfl rfl) rfl rfl
    · replace h := h.2 c
      refine e_aload_n (pc' := 69) (dAt D155 34 rfl) rfl rfl ?_
      refine e_getfield (pc' := 72) (dAt D155 35 rfl) rfl rfl hOx0 (hT_4.own hOx0 0 rfl) ?_
      refine e_aload_n (pc' := 73) (dAt D155 36 rfl) rfl rfl ?_
      refine e_getfield (pc' := 76) (dAt D155 37 rfl) rfl rfl hOx0 (hT_4.int hOx0 3 (by decide)) ?_
      obtain ⟨f1, h⟩ := h
      refine e_baload (pc' := 77) (dAt D155 38 rfl) rfl (hT_4.arr hOx0 0 rfl (by decide)).1 (Or.inl (hT_4.arr hOx0 0 rfl (by decide)).2) f1 rfl ?_
      refine e_i2l (pc' := 78) (dAt D155 39 rfl) rfl ?_
      refine e_ldc2_w (pc' := 81) (dAt D155 40 rfl) rfl rfl ?_
      refine e_ldc2_w (pc' := 84) (dAt D155 41 rfl) rfl rfl ?_
      exact e_call2 h (dAt D155 42 rfl) (hi2 rfl) rfl G151 (by decide) rfl (Nat.le_of_ble_eq_true rfl) rfl rfl rfl
-- PlaceNetsModel.readTokens.([III)V, from 87
set_option maxRecDepth 20000 in
theorem bk155_87 {d b : Nat} {Q : Option Value → mMem → Prop} {m : mMem} {x0 : Nat} {x1 : Nat} {lx1 : Nat} {x2 : Int32} {x3 : Int32} {x4 : Int32} {x5 : Int32} {x6 : Int32} {y0 : Int32} (hT : mWT m) (hOx0 : m.1 x0 = some (.inr 8) ∧ x0 ≠ 0) (hAx1 : m.1 x1 = some (.inl (.int, lx1)) ∧ x1 ≠ 0)
    (h : (((y0 = 0) → ((mIn (x2 + x5) lx1 = true) ∧ ((mIn (x2 + x5) lx1 = true) ∧ (∀ (m_1 : mMem), m_1 = (mSetI m x1 (upd (m.2.2.1 x1) (x2 + x5).toNatClampNeg ((m.2.2.1 x1 (x2 + x5).toNatClampNeg) + x6))) → ((((x5 + 1) ≤ (iF m_1 x0 13)) → (∀ (m_3 : mMem), m_3 = (mSetF m_1 x0 13 (.int (iF m_1 x0 13))) → (mIn (x2 + x5) lx1 = true) ∧ ((((m_3.2.2.1 x1 (x2 + x5).toNatClampNeg) ≤ x3) → (mEs d 155 b g155 (167, [some (.ref x0), some (.ref x1), some (.int x2), some (.int x3), some (.int x4), some (.int x5), some (.int x6)], [], m_3) Q)) ∧ (¬ ((m_3.2.2.1 x1 (x2 + x5).toNatClampNeg) ≤ x3) → (mEv d 156 [.ref x0, .int x4] m_3 (fun r m' => mEs d 155 b g155 (167, [some (.ref x0), some (.ref x1), some (.int x2), some (.int x3), some (.int x4), some (.int x5), some (.int x6)], r.toList ++ [], m') Q)))))) ∧ (¬ ((x5 + 1) ≤ (iF m_1 x0 13)) → (∀ (m_5 : mMem), m_5 = (mSetF m_1 x0 13 (.int (x5 + 1))) → (mIn (x2 + x5) lx1 = true) ∧ ((((m_5.2.2.1 x1 (x2 + x5).toNatClampNeg) ≤ x3) → (mEs d 155 b g155 (167, [some (.ref x0), some (.ref x1), some (.int x2), some (.int x3), some (.int x4), some (.int x5), some (.int x6)], [], m_5) Q)) ∧ (¬ ((m_5.2.2.1 x1 (x2 + x5).toNatClampNeg) ≤ x3) → (mEv d 156 [.ref x0, .int x4] m_5 (fun r m' => mEs d 155 b g155 (167, [some (.ref x0), some (.ref x1), some (.int x2), some (.int x3), some (.int x4), some (.int x5), some (.int x6)], r.toList ++ [], m') Q))))))))))) ∧ (¬ (y0 = 0) → ((mIn (iF m x0 3) 240 = true) ∧ (∀ (v_7 : Int32), v_7 = ((m.2.2.1 (64 * x0 + 1) (iF m x0 3).toNatClampNeg) - 48) → ∀ (m_8 : mMem), m_8 = (mSetF m x0 3 (.int ((iF m x0 3) + 1))) → (mIn (x2 + x5) lx1 = true) ∧ ((mIn (x2 + x5) lx1 = true) ∧ (∀ (m_10 : mMem), m_10 = (mSetI m_8 x1 (upd (m_8.2.2.1 x1) (x2 + x5).toNatClampNeg ((m_8.2.2.1 x1 (x2 + x5).toNatClampNeg) + v_7))) → ((((x5 + 1) ≤ (iF m_10 x0 13)) → (∀ (m_12 : mMem), m_12 = (mSetF m_10 x0 13 (.int (iF m_10 x0 13))) → (mIn (x2 + x5) lx1 = true) ∧ ((((m_12.2.2.1 x1 (x2 + x5).toNatClampNeg) ≤ x3) → (mEs d 155 b g155 (167, [some (.ref x0), some (.ref x1), some (.int x2), some (.int x3), some (.int x4), some (.int x5), some (.int v_7)], [], m_12) Q)) ∧ (¬ ((m_12.2.2.1 x1 (x2 + x5).toNatClampNeg) ≤ x3) → (mEv d 156 [.ref x0, .int x4] m_12 (fun r m' => mEs d 155 b g155 (167, [some (.ref x0), some (.ref x1), some (.int x2), some (.int x3), some (.int x4), some (.int x5), some (.int v_7)], r.toList ++ [], m') Q)))))) ∧ (¬ ((x5 + 1) ≤ (iF m_10 x0 13)) → (∀ (m_14 : mMem), m_14 = (mSetF m_10 x0 13 (.int (x5 + 1))) → (mIn (x2 + x5) lx1 = true) ∧ ((((m_14.2.2.1 x1 (x2 + x5).toNatClampNeg) ≤ x3) → (mEs d 155 b g155 (167, [some (.ref x0), some (.ref x1), some (.int x2), some (.int x3), some (.int x4), some (.int x5), some (.int v_7)], [], m_14) Q)) ∧ (¬ ((m_14.2.2.1 x1 (x2 + x5).toNatClampNeg) ≤ x3) → (mEv d 156 [.ref x0, .int x4] m_14 (fun r m' => mEs d 155 b g155 (167, [some (.ref x0), some (.ref x1), some (.int x2), some (.int x3), some (.int x4), some (.int x5), some (.int v_7)], r.toList ++ [], m') Q)))))))))))))) :
    mEs d 155 b g155 (87, [some (.ref x0), some (.ref x1), some (.int x2), some (.int x3), some (.int x4), some (.int x5), some (.int x6)], [.int y0], m) Q := by
  refine e_if_eq (t := 114) (pc' := 90) (dAt D155 43 rfl) ⟨by decide, by decide⟩ rfl (fun c => ?_) (fun c => ?_)
  · replace h := h.1 c
    refine e_aload_n (pc' := 115) (dAt D155 58 rfl) rfl rfl ?_
    refine e_iload_n (pc' := 116) (dAt D155 59 rfl) rfl rfl ?_
    refine e_iload (pc' := 118) (dAt D155 60 rfl) rfl rfl ?_
    refine e_iadd (pc' := 119) (dAt D155 61 rfl) rfl ?_
    refine e_dup2 (pc' := 120) (dAt D155 62 rfl) rfl ⟨rfl, rfl⟩ ?_
    obtain ⟨f1, h⟩ := h
    refine e_iaload (pc' := 121) (dAt D155 63 rfl) rfl hAx1.1 (Or.inl hAx1.2) f1 rfl ?_
    refine e_iload (pc' := 123) (dAt D155 64 rfl) rfl rfl ?_
    refine e_iadd (pc' := 124) (dAt D155 65 rfl) rfl ?_
    obtain ⟨f1, h⟩ := h
    replace h := h _ rfl
    refine e_iastore (pc' := 125) (dAt D155 66 rfl) rfl hAx1.1 hAx1.2 f1 (nar_i _) ?_
    refine wtI hT (fun hT_2 => ?_)
    refine e_aload_n (pc' := 126) (dAt D155 67 rfl) rfl rfl ?_
    refine e_iload (pc' := 128) (dAt D155 68 rfl) rfl rfl ?_
    refine e_iconst (pc' := 129) (v := 1) (dAt D155 69 rfl) rfl (by decide) ?_
    refine e_iadd (pc' := 130) (dAt D155 70 rfl) rfl ?_
    refine e_aload_n (pc' := 131) (dAt D155 71 rfl) rfl rfl ?_
    refine e_getfield (pc' := 134) (dAt D155 72 rfl) rfl rfl hOx0 (hT_2.int hOx0 13 (by decide)) ?_
    refine e_icmp_le (t := 144) (pc' := 137) (dAt D155 73 rfl) ⟨by decide, by decide⟩ rfl (fun c => ?_) (fun c => ?_)
    · replace h := h.1 c
      refine e_aload_n (pc' := 145) (dAt D155 78 rfl) rfl rfl ?_
      refine e_getfield (pc' := 148) (dAt D155 79 rfl) rfl rfl hOx0 (hT_2.int hOx0 13 (by decide)) ?_
      replace h := h _ rfl
      refine e_putfield (pc' := 151) (dAt D155 80 rfl) rfl rfl hOx0 rfl rfl (fun e => by cases e) ?_
      refine wtF hT_2 hOx0 (by decide) (fun hT_4 => ?_)
      refine e_aload_n (pc' := 152) (dAt D155 81 rfl) rfl rfl ?_
      refine e_iload_n (pc' := 153) (dAt D155 82 rfl) rfl rfl ?_
      refine e_iload (pc' := 155) (dAt D155 83 rfl) rfl rfl ?_
      refine e_iadd (pc' := 156) (dAt D155 84 rfl) rfl ?_
      obtain ⟨f1, h⟩ := h
      refine e_iaload (pc' := 157) (dAt D155 85 rfl) rfl hAx1.1 (Or.inl hAx1.2) f1 rfl ?_
      refine e_iload_n (pc' := 158) (dAt D155 86 rfl) rfl rfl ?_
      refine e_icmp_le (t := 167) (pc' := 161) (dAt D155 87 rfl) ⟨by decide, by decide⟩ rfl (fun c => ?_) (fun c => ?_)
      · replace h := h.1 c
        exact h
      · replace h := h.2 c
        refine e_aload_n (pc' := 162) (dAt D155 88 rfl) rfl rfl ?_
        refine e_iload (pc' := 164) (dAt D155 89 rfl) rfl rfl ?_
        exact e_call2 h (dAt D155 90 rfl) (hi0 rfl) rfl G156 (by decide) rfl (Nat.le_of_ble_eq_true rfl) (kV hOx0 rfl rfl) rfl rfl
    · replace h := h.2 c
      refine e_iload (pc' := 139) (dAt D155 74 rfl) rfl rfl ?_
      refine e_iconst (pc' := 140) (v := 1) (dAt D155 75 rfl) rfl (by decide) ?_
      refine e_iadd (pc' := 141) (dAt D155 76 rfl) rfl ?_
      refine e_goto (t := 148) (dAt D155 77 rfl) ⟨by decide, by decide⟩ ?_
      replace h := h _ rfl
      refine e_putfield (pc' := 151) (dAt D155 80 rfl) rfl rfl hOx0 rfl rfl (fun e => by cases e) ?_
      refine wtF hT_2 hOx0 (by decide) (fun hT_6 => ?_)
      refine e_aload_n (pc' := 152) (dAt D155 81 rfl) rfl rfl ?_
      refine e_iload_n (pc' := 153) (dAt D155 82 rfl) rfl rfl ?_
      refine e_iload (pc' := 155) (dAt D155 83 rfl) rfl rfl ?_
      refine e_iadd (pc' := 156) (dAt D155 84 rfl) rfl ?_
      obtain ⟨f1, h⟩ := h
      refine e_iaload (pc' := 157) (dAt D155 85 rfl) rfl hAx1.1 (Or.inl hAx1.2) f1 rfl ?_
      refine e_iload_n (pc' := 158) (dAt D155 86 rfl) rfl rfl ?_
      refine e_icmp_le (t := 167) (pc' := 161) (dAt D155 87 rfl) ⟨by decide, by decide⟩ rfl (fun c => ?_) (fun c => ?_)
      · replace h := h.1 c
        exact h
      · replace h := h.2 c
        refine e_aload_n (pc' := 162) (dAt D155 88 rfl) rfl rfl ?_
        refine e_iload (pc' := 164) (dAt D155 89 rfl) rfl rfl ?_
        exact e_call2 h (dAt D155 90 rfl) (hi0 rfl) rfl G156 (by decide) rfl (Nat.le_of_ble_eq_true rfl) (kV hOx0 rfl rfl) rfl rfl
  · replace h := h.2 c
    refine e_aload_n (pc' := 91) (dAt D155 44 rfl) rfl rfl ?_
    refine e_getfield (pc' := 94) (dAt D155 45 rfl) rfl rfl hOx0 (hT.own hOx0 0 rfl) ?_
    refine e_aload_n (pc' := 95) (dAt D155 46 rfl) rfl rfl ?_
    refine e_getfield (pc' := 98) (dAt D155 47 rfl) rfl rfl hOx0 (hT.int hOx0 3 (by decide)) ?_
    obtain ⟨f1, h⟩ := h
    refine e_baload (pc' := 99) (dAt D155 48 rfl) rfl (hT.arr hOx0 0 rfl (by decide)).1 (Or.inl (hT.arr hOx0 0 rfl (by decide)).2) f1 rfl ?_
    refine e_bipush (pc' := 101) (v := 48) (dAt D155 49 rfl) rfl (by decide) ?_
    refine e_isub (pc' := 102) (dAt D155 50 rfl) rfl ?_
    replace h := h _ rfl
    refine e_istore (pc' := 104) (dAt D155 51 rfl) rfl (Nat.le_of_ble_eq_true rfl) rfl ?_
    refine e_aload_n (pc' := 105) (dAt D155 52 rfl) rfl rfl ?_
    refine e_dup (pc' := 106) (dAt D155 53 rfl) rfl rfl ?_
    refine e_getfield (pc' := 109) (dAt D155 54 rfl) rfl rfl hOx0 (hT.int hOx0 3 (by decide)) ?_
    refine e_iconst (pc' := 110) (v := 1) (dAt D155 55 rfl) rfl (by decide) ?_
    refine e_iadd (pc' := 111) (dAt D155 56 rfl) rfl ?_
    replace h := h _ rfl
    refine e_putfield (pc' := 114) (dAt D155 57 rfl) rfl rfl hOx0 rfl rfl (fun e => by cases e) ?_
    refine wtF hT hOx0 (by decide) (fun hT_9 => ?_)
    refine e_aload_n (pc' := 115) (dAt D155 58 rfl) rfl rfl ?_
    refine e_iload_n (pc' := 116) (dAt D155 59 rfl) rfl rfl ?_
    refine e_iload (pc' := 118) (dAt D155 60 rfl) rfl rfl ?_
    refine e_iadd (pc' := 119) (dAt D155 61 rfl) rfl ?_
    refine e_dup2 (pc' := 120) (dAt D155 62 rfl) rfl ⟨rfl, rfl⟩ ?_
    obtain ⟨f1, h⟩ := h
    refine e_iaload (pc' := 121) (dAt D155 63 rfl) rfl hAx1.1 (Or.inl hAx1.2) f1 rfl ?_
    refine e_iload (pc' := 123) (dAt D155 64 rfl) rfl rfl ?_
    refine e_iadd (pc' := 124) (dAt D155 65 rfl) rfl ?_
    obtain ⟨f1, h⟩ := h
    replace h := h _ rfl
    refine e_iastore (pc' := 125) (dAt D155 66 rfl) rfl hAx1.1 hAx1.2 f1 (nar_i _) ?_
    refine wtI hT_9 (fun hT_11 => ?_)
    refine e_aload_n (pc' := 126) (dAt D155 67 rfl) rfl rfl ?_
    refine e_iload (pc' := 128) (dAt D155 68 rfl) rfl rfl ?_
    refine e_iconst (pc' := 129) (v := 1) (dAt D155 69 rfl) rfl (by decide) ?_
    refine e_iadd (pc' := 130) (dAt D155 70 rfl) rfl ?_
    refine e_aload_n (pc' := 131) (dAt D155 71 rfl) rfl rfl ?_
    refine e_getfield (pc' := 134) (dAt D155 72 rfl) rfl rfl hOx0 (hT_11.int hOx0 13 (by decide)) ?_
    refine e_icmp_le (t := 144) (pc' := 137) (dAt D155 73 rfl) ⟨by decide, by decide⟩ rfl (fun c => ?_) (fun c => ?_)
    · replace h := h.1 c
      refine e_aload_n (pc' := 145) (dAt D155 78 rfl) rfl rfl ?_
      refine e_getfield (pc' := 148) (dAt D155 79 rfl) rfl rfl hOx0 (hT_11.int hOx0 13 (by decide)) ?_
      replace h := h _ rfl
      refine e_putfield (pc' := 151) (dAt D155 80 rfl) rfl rfl hOx0 rfl rfl (fun e => by cases e) ?_
      refine wtF hT_11 hOx0 (by decide) (fun hT_13 => ?_)
      refine e_aload_n (pc' := 152) (dAt D155 81 rfl) rfl rfl ?_
      refine e_iload_n (pc' := 153) (dAt D155 82 rfl) rfl rfl ?_
      refine e_iload (pc' := 155) (dAt D155 83 rfl) rfl rfl ?_
      refine e_iadd (pc' := 156) (dAt D155 84 rfl) rfl ?_
      obtain ⟨f1, h⟩ := h
      refine e_iaload (pc' := 157) (dAt D155 85 rfl) rfl hAx1.1 (Or.inl hAx1.2) f1 rfl ?_
      refine e_iload_n (pc' := 158) (dAt D155 86 rfl) rfl rfl ?_
      refine e_icmp_le (t := 167) (pc' := 161) (dAt D155 87 rfl) ⟨by decide, by decide⟩ rfl (fun c => ?_) (fun c => ?_)
      · replace h := h.1 c
        exact h
      · replace h := h.2 c
        refine e_aload_n (pc' := 162) (dAt D155 88 rfl) rfl rfl ?_
        refine e_iload (pc' := 164) (dAt D155 89 rfl) rfl rfl ?_
        exact e_call2 h (dAt D155 90 rfl) (hi0 rfl) rfl G156 (by decide) rfl (Nat.le_of_ble_eq_true rfl) (kV hOx0 rfl rfl) rfl rfl
    · replace h := h.2 c
      refine e_iload (pc' := 139) (dAt D155 74 rfl) rfl rfl ?_
      refine e_iconst (pc' := 140) (v := 1) (dAt D155 75 rfl) rfl (by decide) ?_
      refine e_iadd (pc' := 141) (dAt D155 76 rfl) rfl ?_
      refine e_goto (t := 148) (dAt D155 77 rfl) ⟨by decide, by decide⟩ ?_
      replace h := h _ rfl
      refine e_putfield (pc' := 151) (dAt D155 80 rfl) rfl rfl hOx0 rfl rfl (fun e => by cases e) ?_
      refine wtF hT_11 hOx0 (by decide) (fun hT_15 => ?_)
      refine e_aload_n (pc' := 152) (dAt D155 81 rfl) rfl rfl ?_
      refine e_iload_n (pc' := 153) (dAt D155 82 rfl) rfl rfl ?_
      refine e_iload (pc' := 155) (dAt D155 83 rfl) rfl rfl ?_
      refine e_iadd (pc' := 156) (dAt D155 84 rfl) rfl ?_
      obtain ⟨f1, h⟩ := h
      refine e_iaload (pc' := 157) (dAt D155 85 rfl) rfl hAx1.1 (Or.inl hAx1.2) f1 rfl ?_
      refine e_iload_n (pc' := 158) (dAt D155 86 rfl) rfl rfl ?_
      refine e_icmp_le (t := 167) (pc' := 161) (dAt D155 87 rfl) ⟨by decide, by decide⟩ rfl (fun c => ?_) (fun c => ?_)
      · replace h := h.1 c
        exact h
      · replace h := h.2 c
        refine e_aload_n (pc' := 162) (dAt D155 88 rfl) rfl rfl ?_
        refine e_iload (pc' := 164) (dAt D155 89 rfl) rfl rfl ?_
        exact e_call2 h (dAt D155 90 rfl) (hi0 rfl) rfl G156 (by decide) rfl (Nat.le_of_ble_eq_true rfl) (kV hOx0 rfl rfl) rfl rfl
-- PlaceNetsModel.readTokens.([III)V, from 167
set_option maxRecDepth 20000 in
theorem bk155_167 {d b : Nat} {Q : Option Value → mMem → Prop} {m : mMem} {x0 : Nat} {x1 : Nat} {lx1 : Nat} {x2 : Int32} {x3 : Int32} {x4 : Int32} {x5 : Int32} {x6 : Int32} (hT : mWT m) (hOx0 : m.1 x0 = some (.inr 8) ∧ x0 ≠ 0) (hAx1 : m.1 x1 = some (.inl (.int, lx1)) ∧ x1 ≠ 0)
    (h : mEs d 155 b g155 (0, [some (.ref x0), some (.ref x1), some (.int x2), some (.int x3), some (.int x4), some (.int x5), some (.int x6)], [], m) Q) :
    mEs d 155 b g155 (167, [some (.ref x0), some (.ref x1), some (.int x2), some (.int x3), some (.int x4), some (.int x5), some (.int x6)], [], m) Q := by
  refine e_goto (t := 0) (dAt D155 91 rfl) ⟨by decide, by decide⟩ ?_
  exact h
-- PlaceNetsModel.wrong.(I)V, from 0
set_option maxRecDepth 20000 in
theorem bk156_0 {d b : Nat} {Q : Option Value → mMem → Prop} {m : mMem} {x0 : Nat} {x1 : Int32} (hT : mWT m) (hOx0 : m.1 x0 = some (.inr 8) ∧ x0 ≠ 0)
    (h : ((((iF m x0 5) = 0) → (∀ (m_1 : mMem), m_1 = (mSetF m x0 4 (.int (iF m x0 4))) → ∀ (m_3 : mMem), m_3 = (mSetF m_1 x0 5 (.int 0)) → Q none m_3)) ∧ (¬ ((iF m x0 5) = 0) → (∀ (m_5 : mMem), m_5 = (mSetF m x0 4 (.int x1)) → ∀ (m_7 : mMem), m_7 = (mSetF m_5 x0 5 (.int 0)) → Q none m_7)))) :
    mEs d 156 b g156 (0, [some (.ref x0), some (.int x1)], [], m) Q := by
  refine e_aload_n (pc' := 1) (dAt D156 0 rfl) rfl rfl ?_
  refine e_aload_n (pc' := 2) (dAt D156 1 rfl) rfl rfl ?_
  refine e_getfield (pc' := 5) (dAt D156 2 rfl) rfl rfl hOx0 (hT.int hOx0 5 (by decide)) ?_
  refine e_if_eq (t := 12) (pc' := 8) (dAt D156 3 rfl) ⟨by decide, by decide⟩ rfl (fun c => ?_) (fun c => ?_)
  · replace h := h.1 c
    refine e_aload_n (pc' := 13) (dAt D156 6 rfl) rfl rfl ?_
    refine e_getfield (pc' := 16) (dAt D156 7 rfl) rfl rfl hOx0 (hT.int hOx0 4 (by decide)) ?_
    replace h := h _ rfl
    refine e_putfield (pc' := 19) (dAt D156 8 rfl) rfl rfl hOx0 rfl rfl (fun e => by cases e) ?_
    refine wtF hT hOx0 (by decide) (fun hT_2 => ?_)
    refine e_aload_n (pc' := 20) (dAt D156 9 rfl) rfl rfl ?_
    refine e_iconst (pc' := 21) (v := 0) (dAt D156 10 rfl) rfl (by decide) ?_
    replace h := h _ rfl
    refine e_putfield (pc' := 24) (dAt D156 11 rfl) rfl rfl hOx0 rfl rfl (fun e => by cases e) ?_
    refine wtF hT_2 hOx0 (by decide) (fun hT_4 => ?_)
    exact e_return (dAt D156 12 rfl) rfl h
  · replace h := h.2 c
    refine e_iload_n (pc' := 9) (dAt D156 4 rfl) rfl rfl ?_
    refine e_goto (t := 16) (dAt D156 5 rfl) ⟨by decide, by decide⟩ ?_
    replace h := h _ rfl
    refine e_putfield (pc' := 19) (dAt D156 8 rfl) rfl rfl hOx0 rfl rfl (fun e => by cases e) ?_
    refine wtF hT hOx0 (by decide) (fun hT_6 => ?_)
    refine e_aload_n (pc' := 20) (dAt D156 9 rfl) rfl rfl ?_
    refine e_iconst (pc' := 21) (v := 0) (dAt D156 10 rfl) rfl (by decide) ?_
    replace h := h _ rfl
    refine e_putfield (pc' := 24) (dAt D156 11 rfl) rfl rfl hOx0 rfl rfl (fun e => by cases e) ?_
    refine wtF hT_6 hOx0 (by decide) (fun hT_8 => ?_)
    exact e_return (dAt D156 12 rfl) rfl h
-- PlaceNetsModel.become.()V, from 0
set_option maxRecDepth 20000 in
theorem bk157_0 {d b : Nat} {Q : Option Value → mMem → Prop} {m : mMem} {x0 : Nat} {x1 : Option Value} (hT : mWT m) (hOx0 : m.1 x0 = some (.inr 8) ∧ x0 ≠ 0)
    (h : ∀ (m_1 : mMem), m_1 = (mSetF m x0 18 (.int 1)) → ∀ (m_3 : mMem), m_3 = (mSetF m_1 x0 6 (.int (iF m_1 x0 13))) → ∀ (m_5 : mMem), m_5 = (mSetF m_3 x0 7 (.int (iF m_3 x0 14))) → mEs d 157 b g157 (23, [some (.ref x0), some (.int 0)], [], m_5) Q) :
    mEs d 157 b g157 (0, [some (.ref x0), x1], [], m) Q := by
  refine e_aload_n (pc' := 1) (dAt D157 0 rfl) rfl rfl ?_
  refine e_iconst (pc' := 2) (v := 1) (dAt D157 1 rfl) rfl (by decide) ?_
  replace h := h _ rfl
  refine e_putfield (pc' := 5) (dAt D157 2 rfl) rfl rfl hOx0 rfl rfl (fun e => by cases e) ?_
  refine wtF hT hOx0 (by decide) (fun hT_2 => ?_)
  refine e_aload_n (pc' := 6) (dAt D157 3 rfl) rfl rfl ?_
  refine e_aload_n (pc' := 7) (dAt D157 4 rfl) rfl rfl ?_
  refine e_getfield (pc' := 10) (dAt D157 5 rfl) rfl rfl hOx0 (hT_2.int hOx0 13 (by decide)) ?_
  replace h := h _ rfl
  refine e_putfield (pc' := 13) (dAt D157 6 rfl) rfl rfl hOx0 rfl rfl (fun e => by cases e) ?_
  refine wtF hT_2 hOx0 (by decide) (fun hT_4 => ?_)
  refine e_aload_n (pc' := 14) (dAt D157 7 rfl) rfl rfl ?_
  refine e_aload_n (pc' := 15) (dAt D157 8 rfl) rfl rfl ?_
  refine e_getfield (pc' := 18) (dAt D157 9 rfl) rfl rfl hOx0 (hT_4.int hOx0 14 (by decide)) ?_
  replace h := h _ rfl
  refine e_putfield (pc' := 21) (dAt D157 10 rfl) rfl rfl hOx0 rfl rfl (fun e => by cases e) ?_
  refine wtF hT_4 hOx0 (by decide) (fun hT_6 => ?_)
  refine e_iconst (pc' := 22) (v := 0) (dAt D157 11 rfl) rfl (by decide) ?_
  refine e_istore_n (pc' := 23) (dAt D157 12 rfl) rfl (Nat.le_of_ble_eq_true rfl) rfl ?_
  exact h
-- PlaceNetsModel.become.()V, from 23
set_option maxRecDepth 20000 in
theorem bk157_23 {d b : Nat} {Q : Option Value → mMem → Prop} {m : mMem} {x0 : Nat} {x1 : Int32} (hT : mWT m) (hOx0 : m.1 x0 = some (.inr 8) ∧ x0 ≠ 0)
    (h : (((100 ≤ x1) → (mEs d 157 b g157 (61, [some (.ref x0), some (.int 0)], [], m) Q)) ∧ (¬ (100 ≤ x1) → ((mIn x1 110 = true) ∧ ((mIn x1 100 = true) ∧ (∀ (m_1 : mMem), m_1 = (mSetI m (64 * x0 + 2) (upd (m.2.2.1 (64 * x0 + 2)) x1.toNatClampNeg (m.2.2.1 (64 * x0 + 7) x1.toNatClampNeg))) → (mIn x1 110 = true) ∧ ((mIn x1 100 = true) ∧ (∀ (m_3 : mMem), m_3 = (mSetI m_1 (64 * x0 + 3) (upd (m_1.2.2.1 (64 * x0 + 3)) x1.toNatClampNeg (m_1.2.2.1 (64 * x0 + 8) x1.toNatClampNeg))) → ∀ (v_5 : Int32), v_5 = (x1 + 1) → mEs d 157 b g157 (23, [some (.ref x0), some (.int v_5)], [], m_3) Q)))))))) :
    mEs d 157 b g157 (23, [some (.ref x0), some (.int x1)], [], m) Q := by
  refine e_iload_n (pc' := 24) (dAt D157 13 rfl) rfl rfl ?_
  refine e_bipush (pc' := 26) (v := 100) (dAt D157 14 rfl) rfl (by decide) ?_
  refine e_icmp_ge (t := 59) (pc' := 29) (dAt D157 15 rfl) ⟨by decide, by decide⟩ rfl (fun c => ?_) (fun c => ?_)
  · replace h := h.1 c
    refine e_iconst (pc' := 60) (v := 0) (dAt D157 34 rfl) rfl (by decide) ?_
    refine e_istore_n (pc' := 61) (dAt D157 35 rfl) rfl (Nat.le_of_ble_eq_true rfl) rfl ?_
    exact h
  · replace h := h.2 c
    refine e_aload_n (pc' := 30) (dAt D157 16 rfl) rfl rfl ?_
    refine e_getfield (pc' := 33) (dAt D157 17 rfl) rfl rfl hOx0 (hT.own hOx0 1 rfl) ?_
    refine e_iload_n (pc' := 34) (dAt D157 18 rfl) rfl rfl ?_
    refine e_aload_n (pc' := 35) (dAt D157 19 rfl) rfl rfl ?_
    refine e_getfield (pc' := 38) (dAt D157 20 rfl) rfl rfl hOx0 (hT.own hOx0 6 rfl) ?_
    refine e_iload_n (pc' := 39) (dAt D157 21 rfl) rfl rfl ?_
    obtain ⟨f1, h⟩ := h
    refine e_iaload (pc' := 40) (dAt D157 22 rfl) rfl (hT.arr hOx0 6 rfl (by decide)).1 (Or.inl (hT.arr hOx0 6 rfl (by decide)).2) f1 rfl ?_
    obtain ⟨f1, h⟩ := h
    replace h := h _ rfl
    refine e_iastore (pc' := 41) (dAt D157 23 rfl) rfl (hT.arr hOx0 1 rfl (by decide)).1 (hT.arr hOx0 1 rfl (by decide)).2 f1 (nar_i _) ?_
    refine wtI hT (fun hT_2 => ?_)
    refine e_aload_n (pc' := 42) (dAt D157 24 rfl) rfl rfl ?_
    refine e_getfield (pc' := 45) (dAt D157 25 rfl) rfl rfl hOx0 (hT_2.own hOx0 2 rfl) ?_
    refine e_iload_n (pc' := 46) (dAt D157 26 rfl) rfl rfl ?_
    refine e_aload_n (pc' := 47) (dAt D157 27 rfl) rfl rfl ?_
    refine e_getfield (pc' := 50) (dAt D157 28 rfl) rfl rfl hOx0 (hT_2.own hOx0 7 rfl) ?_
    refine e_iload_n (pc' := 51) (dAt D157 29 rfl) rfl rfl ?_
    obtain ⟨f1, h⟩ := h
    refine e_iaload (pc' := 52) (dAt D157 30 rfl) rfl (hT_2.arr hOx0 7 rfl (by decide)).1 (Or.inl (hT_2.arr hOx0 7 rfl (by decide)).2) f1 rfl ?_
    obtain ⟨f1, h⟩ := h
    replace h := h _ rfl
    refine e_iastore (pc' := 53) (dAt D157 31 rfl) rfl (hT_2.arr hOx0 2 rfl (by decide)).1 (hT_2.arr hOx0 2 rfl (by decide)).2 f1 (nar_i _) ?_
    refine wtI hT_2 (fun hT_4 => ?_)
    replace h := h _ rfl
    refine e_iinc (pc' := 56) (dAt D157 32 rfl) rfl rfl (Nat.le_of_ble_eq_true rfl) (congrArg (_ + ·) (show Int32.ofInt (1) = (1 : Int32) by decide)) rfl ?_
    refine e_goto (t := 23) (dAt D157 33 rfl) ⟨by decide, by decide⟩ ?_
    exact h
-- PlaceNetsModel.become.()V, from 61
set_option maxRecDepth 20000 in
theorem bk157_61 {d b : Nat} {Q : Option Value → mMem → Prop} {m : mMem} {x0 : Nat} {x1 : Int32} (hT : mWT m) (hOx0 : m.1 x0 = some (.inr 8) ∧ x0 ≠ 0)
    (h : (((10 ≤ x1) → (∀ (m_1 : mMem), m_1 = (mSetF m x0 20 (.int 0)) → (mIn 0 2 = true) ∧ (∀ (m_3 : mMem), m_3 = (mSetI m_1 (64 * x0 + 21) (upd (m_1.2.2.1 (64 * x0 + 21)) (0 : Int32).toNatClampNeg 0)) → (mIn 1 2 = true) ∧ (∀ (m_5 : mMem), m_5 = (mSetI m_3 (64 * x0 + 21) (upd (m_3.2.2.1 (64 * x0 + 21)) (1 : Int32).toNatClampNeg 0)) → mEv d 158 [.ref x0] m_5 (fun r m' => mEs d 157 b g157 (127, [some (.ref x0), some (.int x1)], r.toList ++ [], m') Q))))) ∧ (¬ (10 ≤ x1) → ((mIn x1 10 = true) ∧ ((mIn x1 10 = true) ∧ (∀ (m_7 : mMem), m_7 = (mSetI m (64 * x0 + 5) (upd (m.2.2.1 (64 * x0 + 5)) x1.toNatClampNeg (m.2.2.1 (64 * x0 + 9) x1.toNatClampNeg))) → (mIn x1 10 = true) ∧ ((mIn x1 10 = true) ∧ (∀ (m_9 : mMem), m_9 = (mSetI m_7 (64 * x0 + 4) (upd (m_7.2.2.1 (64 * x0 + 4)) x1.toNatClampNeg (m_7.2.2.1 (64 * x0 + 9) x1.toNatClampNeg))) → (mIn x1 10 = true) ∧ (∀ (m_11 : mMem), m_11 = (mSetI m_9 (64 * x0 + 6) (upd (m_9.2.2.1 (64 * x0 + 6)) x1.toNatClampNeg 0)) → ∀ (v_13 : Int32), v_13 = (x1 + 1) → mEs d 157 b g157 (61, [some (.ref x0), some (.int v_13)], [], m_11) Q))))))))) :
    mEs d 157 b g157 (61, [some (.ref x0), some (.int x1)], [], m) Q := by
  refine e_iload_n (pc' := 62) (dAt D157 36 rfl) rfl rfl ?_
  refine e_bipush (pc' := 64) (v := 10) (dAt D157 37 rfl) rfl (by decide) ?_
  refine e_icmp_ge (t := 104) (pc' := 67) (dAt D157 38 rfl) ⟨by decide, by decide⟩ rfl (fun c => ?_) (fun c => ?_)
  · replace h := h.1 c
    refine e_aload_n (pc' := 105) (dAt D157 62 rfl) rfl rfl ?_
    refine e_iconst (pc' := 106) (v := 0) (dAt D157 63 rfl) rfl (by decide) ?_
    replace h := h _ rfl
    refine e_putfield (pc' := 109) (dAt D157 64 rfl) rfl rfl hOx0 rfl rfl (fun e => by cases e) ?_
    refine wtF hT hOx0 (by decide) (fun hT_2 => ?_)
    refine e_aload_n (pc' := 110) (dAt D157 65 rfl) rfl rfl ?_
    refine e_getfield (pc' := 113) (dAt D157 66 rfl) rfl rfl hOx0 (hT_2.own hOx0 20 rfl) ?_
    refine e_iconst (pc' := 114) (v := 0) (dAt D157 67 rfl) rfl (by decide) ?_
    refine e_iconst (pc' := 115) (v := 0) (dAt D157 68 rfl) rfl (by decide) ?_
    obtain ⟨f1, h⟩ := h
    replace h := h _ rfl
    refine e_zastore (pc' := 116) (dAt D157 69 rfl) rfl (hT_2.arr hOx0 20 rfl (by decide)).1 (hT_2.arr hOx0 20 rfl (by decide)).2 f1 (vz01 (Or.inl rfl)) ?_
    refine wtI hT_2 (fun hT_4 => ?_)
    refine e_aload_n (pc' := 117) (dAt D157 70 rfl) rfl rfl ?_
    refine e_getfield (pc' := 120) (dAt D157 71 rfl) rfl rfl hOx0 (hT_4.own hOx0 20 rfl) ?_
    refine e_iconst (pc' := 121) (v := 1) (dAt D157 72 rfl) rfl (by decide) ?_
    refine e_iconst (pc' := 122) (v := 0) (dAt D157 73 rfl) rfl (by decide) ?_
    obtain ⟨f1, h⟩ := h
    replace h := h _ rfl
    refine e_zastore (pc' := 123) (dAt D157 74 rfl) rfl (hT_4.arr hOx0 20 rfl (by decide)).1 (hT_4.arr hOx0 20 rfl (by decide)).2 f1 (vz01 (Or.inl rfl)) ?_
    refine wtI hT_4 (fun hT_6 => ?_)
    refine e_aload_n (pc' := 124) (dAt D157 75 rfl) rfl rfl ?_
    exact e_call2 h (dAt D157 76 rfl) (hi0 rfl) rfl G158 (by decide) rfl (Nat.le_of_ble_eq_true rfl) (kV hOx0 rfl rfl) rfl rfl
  · replace h := h.2 c
    refine e_aload_n (pc' := 68) (dAt D157 39 rfl) rfl rfl ?_
    refine e_getfield (pc' := 71) (dAt D157 40 rfl) rfl rfl hOx0 (hT.own hOx0 4 rfl) ?_
    refine e_iload_n (pc' := 72) (dAt D157 41 rfl) rfl rfl ?_
    refine e_aload_n (pc' := 73) (dAt D157 42 rfl) rfl rfl ?_
    refine e_getfield (pc' := 76) (dAt D157 43 rfl) rfl rfl hOx0 (hT.own hOx0 8 rfl) ?_
    refine e_iload_n (pc' := 77) (dAt D157 44 rfl) rfl rfl ?_
    obtain ⟨f1, h⟩ := h
    refine e_iaload (pc' := 78) (dAt D157 45 rfl) rfl (hT.arr hOx0 8 rfl (by decide)).1 (Or.inl (hT.arr hOx0 8 rfl (by decide)).2) f1 rfl ?_
    obtain ⟨f1, h⟩ := h
    replace h := h _ rfl
    refine e_iastore (pc' := 79) (dAt D157 46 rfl) rfl (hT.arr hOx0 4 rfl (by decide)).1 (hT.arr hOx0 4 rfl (by decide)).2 f1 (nar_i _) ?_
    refine wtI hT (fun hT_8 => ?_)
    refine e_aload_n (pc' := 80) (dAt D157 47 rfl) rfl rfl ?_
    refine e_getfield (pc' := 83) (dAt D157 48 rfl) rfl rfl hOx0 (hT_8.own hOx0 3 rfl) ?_
    refine e_iload_n (pc' := 84) (dAt D157 49 rfl) rfl rfl ?_
    refine e_aload_n (pc' := 85) (dAt D157 50 rfl) rfl rfl ?_
    refine e_getfield (pc' := 88) (dAt D157 51 rfl) rfl rfl hOx0 (hT_8.own hOx0 8 rfl) ?_
    refine e_iload_n (pc' := 89) (dAt D157 52 rfl) rfl rfl ?_
    obtain ⟨f1, h⟩ := h
    refine e_iaload (pc' := 90) (dAt D157 53 rfl) rfl (hT_8.arr hOx0 8 rfl (by decide)).1 (Or.inl (hT_8.arr hOx0 8 rfl (by decide)).2) f1 rfl ?_
    obtain ⟨f1, h⟩ := h
    replace h := h _ rfl
    refine e_iastore (pc' := 91) (dAt D157 54 rfl) rfl (hT_8.arr hOx0 3 rfl (by decide)).1 (hT_8.arr hOx0 3 rfl (by decide)).2 f1 (nar_i _) ?_
    refine wtI hT_8 (fun hT_10 => ?_)
    refine e_aload_n (pc' := 92) (dAt D157 55 rfl) rfl rfl ?_
    refine e_getfield (pc' := 95) (dAt D157 56 rfl) rfl rfl hOx0 (hT_10.own hOx0 5 rfl) ?_
    refine e_iload_n (pc' := 96) (dAt D157 57 rfl) rfl rfl ?_
    refine e_iconst (pc' := 97) (v := 0) (dAt D157 58 rfl) rfl (by decide) ?_
    obtain ⟨f1, h⟩ := h
    replace h := h _ rfl
    refine e_iastore (pc' := 98) (dAt D157 59 rfl) rfl (hT_10.arr hOx0 5 rfl (by decide)).1 (hT_10.arr hOx0 5 rfl (by decide)).2 f1 (nar_i _) ?_
    refine wtI hT_10 (fun hT_12 => ?_)
    replace h := h _ rfl
    refine e_iinc (pc' := 101) (dAt D157 60 rfl) rfl rfl (Nat.le_of_ble_eq_true rfl) (congrArg (_ + ·) (show Int32.ofInt (1) = (1 : Int32) by decide)) rfl ?_
    refine e_goto (t := 61) (dAt D157 61 rfl) ⟨by decide, by decide⟩ ?_
    exact h
-- PlaceNetsModel.become.()V, from 127
set_option maxRecDepth 20000 in
theorem bk157_127 {d b : Nat} {Q : Option Value → mMem → Prop} {m : mMem} {x0 : Nat} {x1 : Int32} (hT : mWT m) (hOx0 : m.1 x0 = some (.inr 8) ∧ x0 ≠ 0)
    (h : Q none m) :
    mEs d 157 b g157 (127, [some (.ref x0), some (.int x1)], [], m) Q := by
  exact e_return (dAt D157 77 rfl) rfl h
-- PlaceNetsModel.changed.()V, from 0
set_option maxRecDepth 20000 in
theorem bk158_0 {d b : Nat} {Q : Option Value → mMem → Prop} {m : mMem} {x0 : Nat} (hT : mWT m) (hOx0 : m.1 x0 = some (.inr 8) ∧ x0 ≠ 0)
    (h : ∀ (m_1 : mMem), m_1 = (mSetF m x0 21 (.int 0)) → ∀ (m_3 : mMem), m_3 = (mSetF m_1 x0 27 (.int 0)) → ∀ (m_5 : mMem), m_5 = (mSetF m_3 x0 45 (.int 0)) → Q none m_5) :
    mEs d 158 b g158 (0, [some (.ref x0)], [], m) Q := by
  refine e_aload_n (pc' := 1) (dAt D158 0 rfl) rfl rfl ?_
  refine e_iconst (pc' := 2) (v := 0) (dAt D158 1 rfl) rfl (by decide) ?_
  replace h := h _ rfl
  refine e_putfield (pc' := 5) (dAt D158 2 rfl) rfl rfl hOx0 rfl rfl (fun e => by cases e) ?_
  refine wtF hT hOx0 (by decide) (fun hT_2 => ?_)
  refine e_aload_n (pc' := 6) (dAt D158 3 rfl) rfl rfl ?_
  refine e_iconst (pc' := 7) (v := 0) (dAt D158 4 rfl) rfl (by decide) ?_
  replace h := h _ rfl
  refine e_putfield (pc' := 10) (dAt D158 5 rfl) rfl rfl hOx0 rfl rfl (fun e => by cases e) ?_
  refine wtF hT_2 hOx0 (by decide) (fun hT_4 => ?_)
  refine e_aload_n (pc' := 11) (dAt D158 6 rfl) rfl rfl ?_
  refine e_iconst (pc' := 12) (v := 0) (dAt D158 7 rfl) rfl (by decide) ?_
  replace h := h _ rfl
  refine e_putfield (pc' := 15) (dAt D158 8 rfl) rfl rfl hOx0 rfl rfl (fun e => by cases e) ?_
  refine wtF hT_4 hOx0 (by decide) (fun hT_6 => ?_)
  exact e_return (dAt D158 9 rfl) rfl h
-- PlaceNetsModel.arc.(III)I, from 0
set_option maxRecDepth 20000 in
theorem bk159_0 {d b : Nat} {Q : Option Value → mMem → Prop} {m : mMem} {x0 : Nat} {x1 : Int32} {x2 : Int32} {x3 : Int32} (hT : mWT m) (hOx0 : m.1 x0 = some (.inr 8) ∧ x0 ≠ 0)
    (h : mEv d 160 [.ref x0, .int x1] m (fun r m' => mEs d 159 b g159 (6, [some (.ref x0), some (.int x1), some (.int x2), some (.int x3)], r.toList ++ [.ref x0], m') Q)) :
    mEs d 159 b g159 (0, [some (.ref x0), some (.int x1), some (.int x2), some (.int x3)], [], m) Q := by
  refine e_aload_n (pc' := 1) (dAt D159 0 rfl) rfl rfl ?_
  refine e_aload_n (pc' := 2) (dAt D159 1 rfl) rfl rfl ?_
  refine e_iload_n (pc' := 3) (dAt D159 2 rfl) rfl rfl ?_
  exact e_call2 h (dAt D159 3 rfl) (hi0 rfl) rfl G160 (by decide) rfl (Nat.le_of_ble_eq_true rfl) (kV hOx0 rfl rfl) rfl rfl
-- PlaceNetsModel.arc.(III)I, from 6
set_option maxRecDepth 20000 in
theorem bk159_6 {d b : Nat} {Q : Option Value → mMem → Prop} {m : mMem} {x0 : Nat} {x1 : Int32} {x2 : Int32} {x3 : Int32} {y0 : Nat} {y1 : Int32} (hT : mWT m) (hOx0 : m.1 x0 = some (.inr 8) ∧ x0 ≠ 0) (hOy0 : m.1 y0 = some (.inr 8) ∧ y0 ≠ 0)
    (h : (((y1 = 0) → (∀ (m_1 : mMem), m_1 = (mSetF m y0 0 (.int 1)) → (((¬ (iF m_1 x0 0) = 1) → (((¬ x3 = 0) → (((¬ x3 = 1) → (Q (some (.int ((-1)))) m_1)) ∧ (¬ (¬ x3 = 1) → (mEv d 163 [.ref x0, .int x1, .int x2] m_1 (fun r m' => mEs d 159 b g159 (59, [some (.ref x0), some (.int x1), some (.int x2), some (.int x3)], r.toList ++ [], m') Q))))) ∧ (¬ (¬ x3 = 0) → (mEv d 162 [.ref x0, .int x1, .int x2] m_1 (fun r m' => mEs d 159 b g159 (45, [some (.ref x0), some (.int x1), some (.int x2), some (.int x3)], r.toList ++ [], m') Q))))) ∧ (¬ (¬ (iF m_1 x0 0) = 1) → (Q (some (.int 0)) m_1))))) ∧ (¬ (y1 = 0) → (mEv d 161 [.ref x0, .int x2] m (fun r m' => mEs d 159 b g159 (14, [some (.ref x0), some (.int x1), some (.int x2), some (.int x3)], r.toList ++ [.ref y0], m') Q))))) :
    mEs d 159 b g159 (6, [some (.ref x0), some (.int x1), some (.int x2), some (.int x3)], [.int y1, .ref y0], m) Q := by
  refine e_if_eq (t := 21) (pc' := 9) (dAt D159 4 rfl) ⟨by decide, by decide⟩ rfl (fun c => ?_) (fun c => ?_)
  · replace h := h.1 c
    refine e_iconst (pc' := 22) (v := 1) (dAt D159 11 rfl) rfl (by decide) ?_
    replace h := h _ rfl
    refine e_putfield (pc' := 25) (dAt D159 12 rfl) rfl rfl hOy0 rfl rfl (fun e => by cases e) ?_
    refine wtF hT hOy0 (by decide) (fun hT_2 => ?_)
    refine e_aload_n (pc' := 26) (dAt D159 13 rfl) rfl rfl ?_
    refine e_getfield (pc' := 29) (dAt D159 14 rfl) rfl rfl hOx0 (hT_2.int hOx0 0 (by decide)) ?_
    refine e_iconst (pc' := 30) (v := 1) (dAt D159 15 rfl) rfl (by decide) ?_
    refine e_icmp_ne (t := 35) (pc' := 33) (dAt D159 16 rfl) ⟨by decide, by decide⟩ rfl (fun c => ?_) (fun c => ?_)
    · replace h := h.1 c
      refine e_iload_n (pc' := 36) (dAt D159 19 rfl) rfl rfl ?_
      refine e_if_ne (t := 48) (pc' := 39) (dAt D159 20 rfl) ⟨by decide, by decide⟩ rfl (fun c => ?_) (fun c => ?_)
      · replace h := h.1 c
        refine e_iload_n (pc' := 49) (dAt D159 26 rfl) rfl rfl ?_
        refine e_iconst (pc' := 50) (v := 1) (dAt D159 27 rfl) rfl (by decide) ?_
        refine e_icmp_ne (t := 62) (pc' := 53) (dAt D159 28 rfl) ⟨by decide, by decide⟩ rfl (fun c => ?_) (fun c => ?_)
        · replace h := h.1 c
          refine e_iconst (pc' := 63) (v := (-1)) (dAt D159 34 rfl) rfl (by decide) ?_
          exact e_ireturn (dAt D159 35 rfl) rfl ⟨rfl, fun e => by cases e⟩ h
        · replace h := h.2 c
          refine e_aload_n (pc' := 54) (dAt D159 29 rfl) rfl rfl ?_
          refine e_iload_n (pc' := 55) (dAt D159 30 rfl) rfl rfl ?_
          refine e_iload_n (pc' := 56) (dAt D159 31 rfl) rfl rfl ?_
          exact e_call2 h (dAt D159 32 rfl) (hi0 rfl) rfl G163 (by decide) rfl (Nat.le_of_ble_eq_true rfl) (kV hOx0 rfl rfl) rfl rfl
      · replace h := h.2 c
        refine e_aload_n (pc' := 40) (dAt D159 21 rfl) rfl rfl ?_
        refine e_iload_n (pc' := 41) (dAt D159 22 rfl) rfl rfl ?_
        refine e_iload_n (pc' := 42) (dAt D159 23 rfl) rfl rfl ?_
        exact e_call2 h (dAt D159 24 rfl) (hi0 rfl) rfl G162 (by decide) rfl (Nat.le_of_ble_eq_true rfl) (kV hOx0 rfl rfl) rfl rfl
    · replace h := h.2 c
      refine e_iconst (pc' := 34) (v := 0) (dAt D159 17 rfl) rfl (by decide) ?_
      exact e_ireturn (dAt D159 18 rfl) rfl ⟨rfl, fun e => by cases e⟩ h
  · replace h := h.2 c
    refine e_aload_n (pc' := 10) (dAt D159 5 rfl) rfl rfl ?_
    refine e_iload_n (pc' := 11) (dAt D159 6 rfl) rfl rfl ?_
    exact e_call2 h (dAt D159 7 rfl) (hi0 rfl) rfl G161 (by decide) rfl (Nat.le_of_ble_eq_true rfl) (kV hOx0 rfl rfl) rfl rfl
-- PlaceNetsModel.arc.(III)I, from 14
set_option maxRecDepth 20000 in
theorem bk159_14 {d b : Nat} {Q : Option Value → mMem → Prop} {m : mMem} {x0 : Nat} {x1 : Int32} {x2 : Int32} {x3 : Int32} {y0 : Nat} {y1 : Int32} (hT : mWT m) (hOx0 : m.1 x0 = some (.inr 8) ∧ x0 ≠ 0) (hOy0 : m.1 y0 = some (.inr 8) ∧ y0 ≠ 0)
    (h : (((y1 = 0) → (∀ (m_1 : mMem), m_1 = (mSetF m y0 0 (.int 1)) → (((¬ (iF m_1 x0 0) = 1) → (((¬ x3 = 0) → (((¬ x3 = 1) → (Q (some (.int ((-1)))) m_1)) ∧ (¬ (¬ x3 = 1) → (mEv d 163 [.ref x0, .int x1, .int x2] m_1 (fun r m' => mEs d 159 b g159 (59, [some (.ref x0), some (.int x1), some (.int x2), some (.int x3)], r.toList ++ [], m') Q))))) ∧ (¬ (¬ x3 = 0) → (mEv d 162 [.ref x0, .int x1, .int x2] m_1 (fun r m' => mEs d 159 b g159 (45, [some (.ref x0), some (.int x1), some (.int x2), some (.int x3)], r.toList ++ [], m') Q))))) ∧ (¬ (¬ (iF m_1 x0 0) = 1) → (Q (some (.int 0)) m_1))))) ∧ (¬ (y1 = 0) → (∀ (m_3 : mMem), m_3 = (mSetF m y0 0 (.int 0)) → (((¬ (iF m_3 x0 0) = 1) → (((¬ x3 = 0) → (((¬ x3 = 1) → (Q (some (.int ((-1)))) m_3)) ∧ (¬ (¬ x3 = 1) → (mEv d 163 [.ref x0, .int x1, .int x2] m_3 (fun r m' => mEs d 159 b g159 (59, [some (.ref x0), some (.int x1), some (.int x2), some (.int x3)], r.toList ++ [], m') Q))))) ∧ (¬ (¬ x3 = 0) → (mEv d 162 [.ref x0, .int x1, .int x2] m_3 (fun r m' => mEs d 159 b g159 (45, [some (.ref x0), some (.int x1), some (.int x2), some (.int x3)], r.toList ++ [], m') Q))))) ∧ (¬ (¬ (iF m_3 x0 0) = 1) → (Q (some (.int 0)) m_3))))))) :
    mEs d 159 b g159 (14, [some (.ref x0), some (.int x1), some (.int x2), some (.int x3)], [.int y1, .ref y0], m) Q := by
  refine e_if_eq (t := 21) (pc' := 17) (dAt D159 8 rfl) ⟨by decide, by decide⟩ rfl (fun c => ?_) (fun c => ?_)
  · replace h := h.1 c
    refine e_iconst (pc' := 22) (v := 1) (dAt D159 11 rfl) rfl (by decide) ?_
    replace h := h _ rfl
    refine e_putfield (pc' := 25) (dAt D159 12 rfl) rfl rfl hOy0 rfl rfl (fun e => by cases e) ?_
    refine wtF hT hOy0 (by decide) (fun hT_2 => ?_)
    refine e_aload_n (pc' := 26) (dAt D159 13 rfl) rfl rfl ?_
    refine e_getfield (pc' := 29) (dAt D159 14 rfl) rfl rfl hOx0 (hT_2.int hOx0 0 (by decide)) ?_
    refine e_iconst (pc' := 30) (v := 1) (dAt D159 15 rfl) rfl (by decide) ?_
    refine e_icmp_ne (t := 35) (pc' := 33) (dAt D159 16 rfl) ⟨by decide, by decide⟩ rfl (fun c => ?_) (fun c => ?_)
    · replace h := h.1 c
      refine e_iload_n (pc' := 36) (dAt D159 19 rfl) rfl rfl ?_
      refine e_if_ne (t := 48) (pc' := 39) (dAt D159 20 rfl) ⟨by decide, by decide⟩ rfl (fun c => ?_) (fun c => ?_)
      · replace h := h.1 c
        refine e_iload_n (pc' := 49) (dAt D159 26 rfl) rfl rfl ?_
        refine e_iconst (pc' := 50) (v := 1) (dAt D159 27 rfl) rfl (by decide) ?_
        refine e_icmp_ne (t := 62) (pc' := 53) (dAt D159 28 rfl) ⟨by decide, by decide⟩ rfl (fun c => ?_) (fun c => ?_)
        · replace h := h.1 c
          refine e_iconst (pc' := 63) (v := (-1)) (dAt D159 34 rfl) rfl (by decide) ?_
          exact e_ireturn (dAt D159 35 rfl) rfl ⟨rfl, fun e => by cases e⟩ h
        · replace h := h.2 c
          refine e_aload_n (pc' := 54) (dAt D159 29 rfl) rfl rfl ?_
          refine e_iload_n (pc' := 55) (dAt D159 30 rfl) rfl rfl ?_
          refine e_iload_n (pc' := 56) (dAt D159 31 rfl) rfl rfl ?_
          exact e_call2 h (dAt D159 32 rfl) (hi0 rfl) rfl G163 (by decide) rfl (Nat.le_of_ble_eq_true rfl) (kV hOx0 rfl rfl) rfl rfl
      · replace h := h.2 c
        refine e_aload_n (pc' := 40) (dAt D159 21 rfl) rfl rfl ?_
        refine e_iload_n (pc' := 41) (dAt D159 22 rfl) rfl rfl ?_
        refine e_iload_n (pc' := 42) (dAt D159 23 rfl) rfl rfl ?_
        exact e_call2 h (dAt D159 24 rfl) (hi0 rfl) rfl G162 (by decide) rfl (Nat.le_of_ble_eq_true rfl) (kV hOx0 rfl rfl) rfl rfl
    · replace h := h.2 c
      refine e_iconst (pc' := 34) (v := 0) (dAt D159 17 rfl) rfl (by decide) ?_
      exact e_ireturn (dAt D159 18 rfl) rfl ⟨rfl, fun e => by cases e⟩ h
  · replace h := h.2 c
    refine e_iconst (pc' := 18) (v := 0) (dAt D159 9 rfl) rfl (by decide) ?_
    refine e_goto (t := 22) (dAt D159 10 rfl) ⟨by decide, by decide⟩ ?_
    replace h := h _ rfl
    refine e_putfield (pc' := 25) (dAt D159 12 rfl) rfl rfl hOy0 rfl rfl (fun e => by cases e) ?_
    refine wtF hT hOy0 (by decide) (fun hT_4 => ?_)
    refine e_aload_n (pc' := 26) (dAt D159 13 rfl) rfl rfl ?_
    refine e_getfield (pc' := 29) (dAt D159 14 rfl) rfl rfl hOx0 (hT_4.int hOx0 0 (by decide)) ?_
    refine e_iconst (pc' := 30) (v := 1) (dAt D159 15 rfl) rfl (by decide) ?_
    refine e_icmp_ne (t := 35) (pc' := 33) (dAt D159 16 rfl) ⟨by decide, by decide⟩ rfl (fun c => ?_) (fun c => ?_)
    · replace h := h.1 c
      refine e_iload_n (pc' := 36) (dAt D159 19 rfl) rfl rfl ?_
      refine e_if_ne (t := 48) (pc' := 39) (dAt D159 20 rfl) ⟨by decide, by decide⟩ rfl (fun c => ?_) (fun c => ?_)
      · replace h := h.1 c
        refine e_iload_n (pc' := 49) (dAt D159 26 rfl) rfl rfl ?_
        refine e_iconst (pc' := 50) (v := 1) (dAt D159 27 rfl) rfl (by decide) ?_
        refine e_icmp_ne (t := 62) (pc' := 53) (dAt D159 28 rfl) ⟨by decide, by decide⟩ rfl (fun c => ?_) (fun c => ?_)
        · replace h := h.1 c
          refine e_iconst (pc' := 63) (v := (-1)) (dAt D159 34 rfl) rfl (by decide) ?_
          exact e_ireturn (dAt D159 35 rfl) rfl ⟨rfl, fun e => by cases e⟩ h
        · replace h := h.2 c
          refine e_aload_n (pc' := 54) (dAt D159 29 rfl) rfl rfl ?_
          refine e_iload_n (pc' := 55) (dAt D159 30 rfl) rfl rfl ?_
          refine e_iload_n (pc' := 56) (dAt D159 31 rfl) rfl rfl ?_
          exact e_call2 h (dAt D159 32 rfl) (hi0 rfl) rfl G163 (by decide) rfl (Nat.le_of_ble_eq_true rfl) (kV hOx0 rfl rfl) rfl rfl
      · replace h := h.2 c
        refine e_aload_n (pc' := 40) (dAt D159 21 rfl) rfl rfl ?_
        refine e_iload_n (pc' := 41) (dAt D159 22 rfl) rfl rfl ?_
        refine e_iload_n (pc' := 42) (dAt D159 23 rfl) rfl rfl ?_
        exact e_call2 h (dAt D159 24 rfl) (hi0 rfl) rfl G162 (by decide) rfl (Nat.le_of_ble_eq_true rfl) (kV hOx0 rfl rfl) rfl rfl
    · replace h := h.2 c
      refine e_iconst (pc' := 34) (v := 0) (dAt D159 17 rfl) rfl (by decide) ?_
      exact e_ireturn (dAt D159 18 rfl) rfl ⟨rfl, fun e => by cases e⟩ h
-- PlaceNetsModel.arc.(III)I, from 45
set_option maxRecDepth 20000 in
theorem bk159_45 {d b : Nat} {Q : Option Value → mMem → Prop} {m : mMem} {x0 : Nat} {x1 : Int32} {x2 : Int32} {x3 : Int32} {y0 : Int32} (hT : mWT m) (hOx0 : m.1 x0 = some (.inr 8) ∧ x0 ≠ 0)
    (h : Q (some (.int y0)) m) :
    mEs d 159 b g159 (45, [some (.ref x0), some (.int x1), some (.int x2), some (.int x3)], [.int y0], m) Q := by
  refine e_goto (t := 63) (dAt D159 25 rfl) ⟨by decide, by decide⟩ ?_
  exact e_ireturn (dAt D159 35 rfl) rfl ⟨rfl, fun e => by cases e⟩ h
-- PlaceNetsModel.arc.(III)I, from 59
set_option maxRecDepth 20000 in
theorem bk159_59 {d b : Nat} {Q : Option Value → mMem → Prop} {m : mMem} {x0 : Nat} {x1 : Int32} {x2 : Int32} {x3 : Int32} {y0 : Int32} (hT : mWT m) (hOx0 : m.1 x0 = some (.inr 8) ∧ x0 ≠ 0)
    (h : Q (some (.int y0)) m) :
    mEs d 159 b g159 (59, [some (.ref x0), some (.int x1), some (.int x2), some (.int x3)], [.int y0], m) Q := by
  refine e_goto (t := 63) (dAt D159 33 rfl) ⟨by decide, by decide⟩ ?_
  exact e_ireturn (dAt D159 35 rfl) rfl ⟨rfl, fun e => by cases e⟩ h
-- PlaceNetsModel.isTransition.(I)Z, from 0
set_option maxRecDepth 20000 in
theorem bk160_0 {d b : Nat} {Q : Option Value → mMem → Prop} {m : mMem} {x0 : Nat} {x1 : Int32} (hT : mWT m) (hOx0 : m.1 x0 = some (.inr 8) ∧ x0 ≠ 0)
    (h : mEv d 151 [.long x1.toInt64, .long 0, .long (((iF m x0 7).toInt64) - 1)] m (fun r m' => mEs d 160 b g160 (13, [some (.ref x0), some (.int x1)], r.toList ++ [], m') Q)) :
    mEs d 160 b g160 (0, [some (.ref x0), some (.int x1)], [], m) Q := by
  refine e_iload_n (pc' := 1) (dAt D160 0 rfl) rfl rfl ?_
  refine e_i2l (pc' := 2) (dAt D160 1 rfl) rfl ?_
  refine e_lconst (pc' := 3) (v := 0) (dAt D160 2 rfl) rfl (by decide) ?_
  refine e_aload_n (pc' := 4) (dAt D160 3 rfl) rfl rfl ?_
  refine e_getfield (pc' := 7) (dAt D160 4 rfl) rfl rfl hOx0 (hT.int hOx0 7 (by decide)) ?_
  refine e_i2l (pc' := 8) (dAt D160 5 rfl) rfl ?_
  refine e_lconst (pc' := 9) (v := 1) (dAt D160 6 rfl) rfl (by decide) ?_
  refine e_lsub (pc' := 10) (dAt D160 7 rfl) rfl ?_
  exact e_call2 h (dAt D160 8 rfl) (hi2 rfl) rfl G151 (by decide) rfl (Nat.le_of_ble_eq_true rfl) rfl rfl rfl
-- PlaceNetsModel.isTransition.(I)Z, from 13
set_option maxRecDepth 20000 in
theorem bk160_13 {d b : Nat} {Q : Option Value → mMem → Prop} {m : mMem} {x0 : Nat} {x1 : Int32} {y0 : Int32} (hT : mWT m) (hOx0 : m.1 x0 = some (.inr 8) ∧ x0 ≠ 0)
    (h : (y0 = 0 ∨ y0 = 1) ∧ (Q (some (.int y0)) m)) :
    mEs d 160 b g160 (13, [some (.ref x0), some (.int x1)], [.int y0], m) Q := by
  obtain ⟨f1, h⟩ := h
  exact e_ireturn (dAt D160 9 rfl) rfl ⟨nb01 f1, fun e => by cases e⟩ h
-- PlaceNetsModel.isPlace.(I)Z, from 0
set_option maxRecDepth 20000 in
theorem bk161_0 {d b : Nat} {Q : Option Value → mMem → Prop} {m : mMem} {x0 : Nat} {x1 : Int32} (hT : mWT m) (hOx0 : m.1 x0 = some (.inr 8) ∧ x0 ≠ 0)
    (h : mEv d 151 [.long x1.toInt64, .long 0, .long (((iF m x0 6).toInt64) - 1)] m (fun r m' => mEs d 161 b g161 (13, [some (.ref x0), some (.int x1)], r.toList ++ [], m') Q)) :
    mEs d 161 b g161 (0, [some (.ref x0), some (.int x1)], [], m) Q := by
  refine e_iload_n (pc' := 1) (dAt D161 0 rfl) rfl rfl ?_
  refine e_i2l (pc' := 2) (dAt D161 1 rfl) rfl ?_
  refine e_lconst (pc' := 3) (v := 0) (dAt D161 2 rfl) rfl (by decide) ?_
  refine e_aload_n (pc' := 4) (dAt D161 3 rfl) rfl rfl ?_
  refine e_getfield (pc' := 7) (dAt D161 4 rfl) rfl rfl hOx0 (hT.int hOx0 6 (by decide)) ?_
  refine e_i2l (pc' := 8) (dAt D161 5 rfl) rfl ?_
  refine e_lconst (pc' := 9) (v := 1) (dAt D161 6 rfl) rfl (by decide) ?_
  refine e_lsub (pc' := 10) (dAt D161 7 rfl) rfl ?_
  exact e_call2 h (dAt D161 8 rfl) (hi2 rfl) rfl G151 (by decide) rfl (Nat.le_of_ble_eq_true rfl) rfl rfl rfl
-- PlaceNetsModel.isPlace.(I)Z, from 13
set_option maxRecDepth 20000 in
theorem bk161_13 {d b : Nat} {Q : Option Value → mMem → Prop} {m : mMem} {x0 : Nat} {x1 : Int32} {y0 : Int32} (hT : mWT m) (hOx0 : m.1 x0 = some (.inr 8) ∧ x0 ≠ 0)
    (h : (y0 = 0 ∨ y0 = 1) ∧ (Q (some (.int y0)) m)) :
    mEs d 161 b g161 (13, [some (.ref x0), some (.int x1)], [.int y0], m) Q := by
  obtain ⟨f1, h⟩ := h
  exact e_ireturn (dAt D161 9 rfl) rfl ⟨nb01 f1, fun e => by cases e⟩ h
-- PlaceNetsModel.takesOf.(II)I, from 0
set_option maxRecDepth 20000 in
theorem bk162_0 {d b : Nat} {Q : Option Value → mMem → Prop} {m : mMem} {x0 : Nat} {x1 : Int32} {x2 : Int32} (hT : mWT m) (hOx0 : m.1 x0 = some (.inr 8) ∧ x0 ≠ 0)
    (h : (mIn ((10 * x1) + x2) 100 = true) ∧ (Q (some (.int (m.2.2.1 (64 * x0 + 2) ((10 * x1) + x2).toNatClampNeg))) m)) :
    mEs d 162 b g162 (0, [some (.ref x0), some (.int x1), some (.int x2)], [], m) Q := by
  refine e_aload_n (pc' := 1) (dAt D162 0 rfl) rfl rfl ?_
  refine e_getfield (pc' := 4) (dAt D162 1 rfl) rfl rfl hOx0 (hT.own hOx0 1 rfl) ?_
  refine e_bipush (pc' := 6) (v := 10) (dAt D162 2 rfl) rfl (by decide) ?_
  refine e_iload_n (pc' := 7) (dAt D162 3 rfl) rfl rfl ?_
  refine e_imul (pc' := 8) (dAt D162 4 rfl) rfl ?_
  refine e_iload_n (pc' := 9) (dAt D162 5 rfl) rfl rfl ?_
  refine e_iadd (pc' := 10) (dAt D162 6 rfl) rfl ?_
  obtain ⟨f1, h⟩ := h
  refine e_iaload (pc' := 11) (dAt D162 7 rfl) rfl (hT.arr hOx0 1 rfl (by decide)).1 (Or.inl (hT.arr hOx0 1 rfl (by decide)).2) f1 rfl ?_
  exact e_ireturn (dAt D162 8 rfl) rfl ⟨rfl, fun e => by cases e⟩ h
-- PlaceNetsModel.putsOf.(II)I, from 0
set_option maxRecDepth 20000 in
theorem bk163_0 {d b : Nat} {Q : Option Value → mMem → Prop} {m : mMem} {x0 : Nat} {x1 : Int32} {x2 : Int32} (hT : mWT m) (hOx0 : m.1 x0 = some (.inr 8) ∧ x0 ≠ 0)
    (h : (mIn ((10 * x1) + x2) 100 = true) ∧ (Q (some (.int (m.2.2.1 (64 * x0 + 3) ((10 * x1) + x2).toNatClampNeg))) m)) :
    mEs d 163 b g163 (0, [some (.ref x0), some (.int x1), some (.int x2)], [], m) Q := by
  refine e_aload_n (pc' := 1) (dAt D163 0 rfl) rfl rfl ?_
  refine e_getfield (pc' := 4) (dAt D163 1 rfl) rfl rfl hOx0 (hT.own hOx0 2 rfl) ?_
  refine e_bipush (pc' := 6) (v := 10) (dAt D163 2 rfl) rfl (by decide) ?_
  refine e_iload_n (pc' := 7) (dAt D163 3 rfl) rfl rfl ?_
  refine e_imul (pc' := 8) (dAt D163 4 rfl) rfl ?_
  refine e_iload_n (pc' := 9) (dAt D163 5 rfl) rfl rfl ?_
  refine e_iadd (pc' := 10) (dAt D163 6 rfl) rfl ?_
  obtain ⟨f1, h⟩ := h
  refine e_iaload (pc' := 11) (dAt D163 7 rfl) rfl (hT.arr hOx0 2 rfl (by decide)).1 (Or.inl (hT.arr hOx0 2 rfl (by decide)).2) f1 rfl ?_
  exact e_ireturn (dAt D163 8 rfl) rfl ⟨rfl, fun e => by cases e⟩ h
-- PlaceNetsModel.tokens.(II)I, from 0
set_option maxRecDepth 20000 in
theorem bk164_0 {d b : Nat} {Q : Option Value → mMem → Prop} {m : mMem} {x0 : Nat} {x1 : Int32} {x2 : Int32} (hT : mWT m) (hOx0 : m.1 x0 = some (.inr 8) ∧ x0 ≠ 0)
    (h : ∀ (m_1 : mMem), m_1 = (mSetF m x0 0 (.int 0)) → mEv d 161 [.ref x0, .int x1] m_1 (fun r m' => mEs d 164 b g164 (10, [some (.ref x0), some (.int x1), some (.int x2)], r.toList ++ [], m') Q)) :
    mEs d 164 b g164 (0, [some (.ref x0), some (.int x1), some (.int x2)], [], m) Q := by
  refine e_aload_n (pc' := 1) (dAt D164 0 rfl) rfl rfl ?_
  refine e_iconst (pc' := 2) (v := 0) (dAt D164 1 rfl) rfl (by decide) ?_
  replace h := h _ rfl
  refine e_putfield (pc' := 5) (dAt D164 2 rfl) rfl rfl hOx0 rfl rfl (fun e => by cases e) ?_
  refine wtF hT hOx0 (by decide) (fun hT_2 => ?_)
  refine e_aload_n (pc' := 6) (dAt D164 3 rfl) rfl rfl ?_
  refine e_iload_n (pc' := 7) (dAt D164 4 rfl) rfl rfl ?_
  exact e_call2 h (dAt D164 5 rfl) (hi0 rfl) rfl G161 (by decide) rfl (Nat.le_of_ble_eq_true rfl) (kV hOx0 rfl rfl) rfl rfl
-- PlaceNetsModel.tokens.(II)I, from 10
set_option maxRecDepth 20000 in
theorem bk164_10 {d b : Nat} {Q : Option Value → mMem → Prop} {m : mMem} {x0 : Nat} {x1 : Int32} {x2 : Int32} {y0 : Int32} (hT : mWT m) (hOx0 : m.1 x0 = some (.inr 8) ∧ x0 ≠ 0)
    (h : (((¬ y0 = 0) → (((¬ x2 = 0) → (((¬ x2 = 1) → (((¬ x2 = 2) → (Q (some (.int ((-1)))) m)) ∧ (¬ (¬ x2 = 2) → ((mIn x1 10 = true) ∧ (Q (some (.int (m.2.2.1 (64 * x0 + 6) x1.toNatClampNeg))) m))))) ∧ (¬ (¬ x2 = 1) → ((mIn x1 10 = true) ∧ (Q (some (.int (m.2.2.1 (64 * x0 + 5) x1.toNatClampNeg))) m))))) ∧ (¬ (¬ x2 = 0) → ((mIn x1 10 = true) ∧ (Q (some (.int (m.2.2.1 (64 * x0 + 4) x1.toNatClampNeg))) m))))) ∧ (¬ (¬ y0 = 0) → (Q (some (.int ((-1)))) m)))) :
    mEs d 164 b g164 (10, [some (.ref x0), some (.int x1), some (.int x2)], [.int y0], m) Q := by
  refine e_if_ne (t := 15) (pc' := 13) (dAt D164 6 rfl) ⟨by decide, by decide⟩ rfl (fun c => ?_) (fun c => ?_)
  · replace h := h.1 c
    refine e_iload_n (pc' := 16) (dAt D164 9 rfl) rfl rfl ?_
    refine e_if_ne (t := 28) (pc' := 19) (dAt D164 10 rfl) ⟨by decide, by decide⟩ rfl (fun c => ?_) (fun c => ?_)
    · replace h := h.1 c
      refine e_iload_n (pc' := 29) (dAt D164 16 rfl) rfl rfl ?_
      refine e_iconst (pc' := 30) (v := 1) (dAt D164 17 rfl) rfl (by decide) ?_
      refine e_icmp_ne (t := 42) (pc' := 33) (dAt D164 18 rfl) ⟨by decide, by decide⟩ rfl (fun c => ?_) (fun c => ?_)
      · replace h := h.1 c
        refine e_iload_n (pc' := 43) (dAt D164 24 rfl) rfl rfl ?_
        refine e_iconst (pc' := 44) (v := 2) (dAt D164 25 rfl) rfl (by decide) ?_
        refine e_icmp_ne (t := 56) (pc' := 47) (dAt D164 26 rfl) ⟨by decide, by decide⟩ rfl (fun c => ?_) (fun c => ?_)
        · replace h := h.1 c
          refine e_iconst (pc' := 57) (v := (-1)) (dAt D164 32 rfl) rfl (by decide) ?_
          exact e_ireturn (dAt D164 33 rfl) rfl ⟨rfl, fun e => by cases e⟩ h
        · replace h := h.2 c
          refine e_aload_n (pc' := 48) (dAt D164 27 rfl) rfl rfl ?_
          refine e_getfield (pc' := 51) (dAt D164 28 rfl) rfl rfl hOx0 (hT.own hOx0 5 rfl) ?_
          refine e_iload_n (pc' := 52) (dAt D164 29 rfl) rfl rfl ?_
          obtain ⟨f1, h⟩ := h
          refine e_iaload (pc' := 53) (dAt D164 30 rfl) rfl (hT.arr hOx0 5 rfl (by decide)).1 (Or.inl (hT.arr hOx0 5 rfl (by decide)).2) f1 rfl ?_
          refine e_goto (t := 57) (dAt D164 31 rfl) ⟨by decide, by decide⟩ ?_
          exact e_ireturn (dAt D164 33 rfl) rfl ⟨rfl, fun e => by cases e⟩ h
      · replace h := h.2 c
        refine e_aload_n (pc' := 34) (dAt D164 19 rfl) rfl rfl ?_
        refine e_getfield (pc' := 37) (dAt D164 20 rfl) rfl rfl hOx0 (hT.own hOx0 4 rfl) ?_
        refine e_iload_n (pc' := 38) (dAt D164 21 rfl) rfl rfl ?_
        obtain ⟨f1, h⟩ := h
        refine e_iaload (pc' := 39) (dAt D164 22 rfl) rfl (hT.arr hOx0 4 rfl (by decide)).1 (Or.inl (hT.arr hOx0 4 rfl (by decide)).2) f1 rfl ?_
        refine e_goto (t := 57) (dAt D164 23 rfl) ⟨by decide, by decide⟩ ?_
        exact e_ireturn (dAt D164 33 rfl) rfl ⟨rfl, fun e => by cases e⟩ h
    · replace h := h.2 c
      refine e_aload_n (pc' := 20) (dAt D164 11 rfl) rfl rfl ?_
      refine e_getfield (pc' := 23) (dAt D164 12 rfl) rfl rfl hOx0 (hT.own hOx0 3 rfl) ?_
      refine e_iload_n (pc' := 24) (dAt D164 13 rfl) rfl rfl ?_
      obtain ⟨f1, h⟩ := h
      refine e_iaload (pc' := 25) (dAt D164 14 rfl) rfl (hT.arr hOx0 3 rfl (by decide)).1 (Or.inl (hT.arr hOx0 3 rfl (by decide)).2) f1 rfl ?_
      refine e_goto (t := 57) (dAt D164 15 rfl) ⟨by decide, by decide⟩ ?_
      exact e_ireturn (dAt D164 33 rfl) rfl ⟨rfl, fun e => by cases e⟩ h
  · replace h := h.2 c
    refine e_iconst (pc' := 14) (v := (-1)) (dAt D164 7 rfl) rfl (by decide) ?_
    exact e_ireturn (dAt D164 8 rfl) rfl ⟨rfl, fun e => by cases e⟩ h
-- PlaceNetsModel.can.()I, from 0
set_option maxRecDepth 20000 in
theorem bk165_0 {d b : Nat} {Q : Option Value → mMem → Prop} {m : mMem} {x0 : Nat} (hT : mWT m) (hOx0 : m.1 x0 = some (.inr 8) ∧ x0 ≠ 0)
    (h : ∀ (m_1 : mMem), m_1 = (mSetF m x0 0 (.int 0)) → ((((iF m_1 x0 18) = 0) → (Q (some (.int ((-1)))) m_1)) ∧ (¬ ((iF m_1 x0 18) = 0) → (mEv d 166 [.ref x0, .ref (64 * x0 + 4), .int 0] m_1 (fun r m' => mEs d 165 b g165 (21, [some (.ref x0)], r.toList ++ [], m') Q))))) :
    mEs d 165 b g165 (0, [some (.ref x0)], [], m) Q := by
  refine e_aload_n (pc' := 1) (dAt D165 0 rfl) rfl rfl ?_
  refine e_iconst (pc' := 2) (v := 0) (dAt D165 1 rfl) rfl (by decide) ?_
  replace h := h _ rfl
  refine e_putfield (pc' := 5) (dAt D165 2 rfl) rfl rfl hOx0 rfl rfl (fun e => by cases e) ?_
  refine wtF hT hOx0 (by decide) (fun hT_2 => ?_)
  refine e_aload_n (pc' := 6) (dAt D165 3 rfl) rfl rfl ?_
  refine e_getfield (pc' := 9) (dAt D165 4 rfl) rfl rfl hOx0 (hT_2.int hOx0 18 (by decide)) ?_
  refine e_if_eq (t := 24) (pc' := 12) (dAt D165 5 rfl) ⟨by decide, by decide⟩ rfl (fun c => ?_) (fun c => ?_)
  · replace h := h.1 c
    refine e_iconst (pc' := 25) (v := (-1)) (dAt D165 12 rfl) rfl (by decide) ?_
    exact e_ireturn (dAt D165 13 rfl) rfl ⟨rfl, fun e => by cases e⟩ h
  · replace h := h.2 c
    refine e_aload_n (pc' := 13) (dAt D165 6 rfl) rfl rfl ?_
    refine e_aload_n (pc' := 14) (dAt D165 7 rfl) rfl rfl ?_
    refine e_getfield (pc' := 17) (dAt D165 8 rfl) rfl rfl hOx0 (hT_2.own hOx0 3 rfl) ?_
    refine e_iconst (pc' := 18) (v := 0) (dAt D165 9 rfl) rfl (by decide) ?_
    exact e_call2 h (dAt D165 10 rfl) (hi0 rfl) rfl G166 (by decide) rfl (Nat.le_of_ble_eq_true rfl) (kV hOx0 rfl rfl) rfl rfl
-- PlaceNetsModel.can.()I, from 21
set_option maxRecDepth 20000 in
theorem bk165_21 {d b : Nat} {Q : Option Value → mMem → Prop} {m : mMem} {x0 : Nat} {y0 : Int32} (hT : mWT m) (hOx0 : m.1 x0 = some (.inr 8) ∧ x0 ≠ 0)
    (h : Q (some (.int y0)) m) :
    mEs d 165 b g165 (21, [some (.ref x0)], [.int y0], m) Q := by
  refine e_goto (t := 25) (dAt D165 11 rfl) ⟨by decide, by decide⟩ ?_
  exact e_ireturn (dAt D165 13 rfl) rfl ⟨rfl, fun e => by cases e⟩ h
-- PlaceNetsModel.canBy.([II)I, from 0
set_option maxRecDepth 20000 in
theorem bk166_0 {d b : Nat} {Q : Option Value → mMem → Prop} {m : mMem} {x0 : Nat} {x1 : Nat} {lx1 : Nat} {x2 : Int32} {x3 : Option Value} {x4 : Option Value} (hT : mWT m) (hOx0 : m.1 x0 = some (.inr 8) ∧ x0 ≠ 0) (hAx1 : m.1 x1 = some (.inl (.int, lx1)) ∧ x1 ≠ 0)
    (h : mEs d 166 b g166 (5, [some (.ref x0), some (.ref x1), some (.int x2), some (.int 0), some (.int 0)], [], m) Q) :
    mEs d 166 b g166 (0, [some (.ref x0), some (.ref x1), some (.int x2), x3, x4], [], m) Q := by
  refine e_iconst (pc' := 1) (v := 0) (dAt D166 0 rfl) rfl (by decide) ?_
  refine e_istore_n (pc' := 2) (dAt D166 1 rfl) rfl (Nat.le_of_ble_eq_true rfl) rfl ?_
  refine e_iconst (pc' := 3) (v := 0) (dAt D166 2 rfl) rfl (by decide) ?_
  refine e_istore (pc' := 5) (dAt D166 3 rfl) rfl (Nat.le_of_ble_eq_true rfl) rfl ?_
  exact h
-- PlaceNetsModel.canBy.([II)I, from 5
set_option maxRecDepth 20000 in
theorem bk166_5 {d b : Nat} {Q : Option Value → mMem → Prop} {m : mMem} {x0 : Nat} {x1 : Nat} {lx1 : Nat} {x2 : Int32} {x3 : Int32} {x4 : Int32} (hT : mWT m) (hOx0 : m.1 x0 = some (.inr 8) ∧ x0 ≠ 0) (hAx1 : m.1 x1 = some (.inl (.int, lx1)) ∧ x1 ≠ 0)
    (h : ((((iF m x0 7) ≤ x4) → (Q (some (.int x3)) m)) ∧ (¬ ((iF m x0 7) ≤ x4) → (mEv d 167 [.ref x0, .ref x1, .int x2, .int x4, .int 99] m (fun r m' => mEs d 166 b g166 (25, [some (.ref x0), some (.ref x1), some (.int x2), some (.int x3), some (.int x4)], r.toList ++ [.int x3], m') Q))))) :
    mEs d 166 b g166 (5, [some (.ref x0), some (.ref x1), some (.int x2), some (.int x3), some (.int x4)], [], m) Q := by
  refine e_iload (pc' := 7) (dAt D166 4 rfl) rfl rfl ?_
  refine e_aload_n (pc' := 8) (dAt D166 5 rfl) rfl rfl ?_
  refine e_getfield (pc' := 11) (dAt D166 6 rfl) rfl rfl hOx0 (hT.int hOx0 7 (by decide)) ?_
  refine e_icmp_ge (t := 44) (pc' := 14) (dAt D166 7 rfl) ⟨by decide, by decide⟩ rfl (fun c => ?_) (fun c => ?_)
  · replace h := h.1 c
    refine e_iload_n (pc' := 45) (dAt D166 25 rfl) rfl rfl ?_
    exact e_ireturn (dAt D166 26 rfl) rfl ⟨rfl, fun e => by cases e⟩ h
  · replace h := h.2 c
    refine e_iload_n (pc' := 15) (dAt D166 8 rfl) rfl rfl ?_
    refine e_aload_n (pc' := 16) (dAt D166 9 rfl) rfl rfl ?_
    refine e_aload_n (pc' := 17) (dAt D166 10 rfl) rfl rfl ?_
    refine e_iload_n (pc' := 18) (dAt D166 11 rfl) rfl rfl ?_
    refine e_iload (pc' := 20) (dAt D166 12 rfl) rfl rfl ?_
    refine e_bipush (pc' := 22) (v := 99) (dAt D166 13 rfl) rfl (by decide) ?_
    exact e_call2 h (dAt D166 14 rfl) (hi0 rfl) rfl G167 (by decide) rfl (Nat.le_of_ble_eq_true rfl) (kV hOx0 rfl rfl) rfl rfl
-- PlaceNetsModel.canBy.([II)I, from 25
set_option maxRecDepth 20000 in
theorem bk166_25 {d b : Nat} {Q : Option Value → mMem → Prop} {m : mMem} {x0 : Nat} {x1 : Nat} {lx1 : Nat} {x2 : Int32} {x3 : Int32} {x4 : Int32} {y0 : Int32} {y1 : Int32} (hT : mWT m) (hOx0 : m.1 x0 = some (.inr 8) ∧ x0 ≠ 0) (hAx1 : m.1 x1 = some (.inl (.int, lx1)) ∧ x1 ≠ 0)
    (h : (((y1 = 0) → (∀ (v_1 : Int32), v_1 = (y0 ||| 0) → ∀ (v_2 : Int32), v_2 = (x4 + 1) → mEs d 166 b g166 (5, [some (.ref x0), some (.ref x1), some (.int x2), some (.int v_1), some (.int v_2)], [], m) Q)) ∧ (¬ (y1 = 0) → (∀ (v_3 : Int32), v_3 = (y0 ||| ((1 : Int32) <<< (x4 &&& 31))) → ∀ (v_4 : Int32), v_4 = (x4 + 1) → mEs d 166 b g166 (5, [some (.ref x0), some (.ref x1), some (.int x2), some (.int v_3), some (.int v_4)], [], m) Q)))) :
    mEs d 166 b g166 (25, [some (.ref x0), some (.ref x1), some (.int x2), some (.int x3), some (.int x4)], [.int y1, .int y0], m) Q := by
  refine e_if_eq (t := 35) (pc' := 28) (dAt D166 15 rfl) ⟨by decide, by decide⟩ rfl (fun c => ?_) (fun c => ?_)
  · replace h := h.1 c
    refine e_iconst (pc' := 36) (v := 0) (dAt D166 20 rfl) rfl (by decide) ?_
    refine e_ior (pc' := 37) (dAt D166 21 rfl) rfl ?_
    replace h := h _ rfl
    refine e_istore_n (pc' := 38) (dAt D166 22 rfl) rfl (Nat.le_of_ble_eq_true rfl) rfl ?_
    replace h := h _ rfl
    refine e_iinc (pc' := 41) (dAt D166 23 rfl) rfl rfl (Nat.le_of_ble_eq_true rfl) (congrArg (_ + ·) (show Int32.ofInt (1) = (1 : Int32) by decide)) rfl ?_
    refine e_goto (t := 5) (dAt D166 24 rfl) ⟨by decide, by decide⟩ ?_
    exact h
  · replace h := h.2 c
    refine e_iconst (pc' := 29) (v := 1) (dAt D166 16 rfl) rfl (by decide) ?_
    refine e_iload (pc' := 31) (dAt D166 17 rfl) rfl rfl ?_
    refine e_ishl (pc' := 32) (dAt D166 18 rfl) rfl ?_
    refine e_goto (t := 36) (dAt D166 19 rfl) ⟨by decide, by decide⟩ ?_
    refine e_ior (pc' := 37) (dAt D166 21 rfl) rfl ?_
    replace h := h _ rfl
    refine e_istore_n (pc' := 38) (dAt D166 22 rfl) rfl (Nat.le_of_ble_eq_true rfl) rfl ?_
    replace h := h _ rfl
    refine e_iinc (pc' := 41) (dAt D166 23 rfl) rfl rfl (Nat.le_of_ble_eq_true rfl) (congrArg (_ + ·) (show Int32.ofInt (1) = (1 : Int32) by decide)) rfl ?_
    refine e_goto (t := 5) (dAt D166 24 rfl) ⟨by decide, by decide⟩ ?_
    exact h
-- PlaceNetsModel.can.([IIII)Z, from 0
set_option maxRecDepth 20000 in
theorem bk167_0 {d b : Nat} {Q : Option Value → mMem → Prop} {m : mMem} {x0 : Nat} {x1 : Nat} {lx1 : Nat} {x2 : Int32} {x3 : Int32} {x4 : Int32} {x5 : Option Value} {x6 : Option Value} {x7 : Option Value} (hT : mWT m) (hOx0 : m.1 x0 = some (.inr 8) ∧ x0 ≠ 0) (hAx1 : m.1 x1 = some (.inl (.int, lx1)) ∧ x1 ≠ 0)
    (h : mEs d 167 b g167 (6, [some (.ref x0), some (.ref x1), some (.int x2), some (.int x3), some (.int x4), some (.int 1), some (.int 0), x7], [], m) Q) :
    mEs d 167 b g167 (0, [some (.ref x0), some (.ref x1), some (.int x2), some (.int x3), some (.int x4), x5, x6, x7], [], m) Q := by
  refine e_iconst (pc' := 1) (v := 1) (dAt D167 0 rfl) rfl (by decide) ?_
  refine e_istore (pc' := 3) (dAt D167 1 rfl) rfl (Nat.le_of_ble_eq_true rfl) rfl ?_
  refine e_iconst (pc' := 4) (v := 0) (dAt D167 2 rfl) rfl (by decide) ?_
  refine e_istore (pc' := 6) (dAt D167 3 rfl) rfl (Nat.le_of_ble_eq_true rfl) rfl ?_
  exact h
-- PlaceNetsModel.can.([IIII)Z, from 6
set_option maxRecDepth 20000 in
theorem bk167_6 {d b : Nat} {Q : Option Value → mMem → Prop} {m : mMem} {x0 : Nat} {x1 : Nat} {lx1 : Nat} {x2 : Int32} {x3 : Int32} {x4 : Int32} {x5 : Int32} {x6 : Int32} {x7 : Option Value} (hT : mWT m) (hOx0 : m.1 x0 = some (.inr 8) ∧ x0 ≠ 0) (hAx1 : m.1 x1 = some (.inl (.int, lx1)) ∧ x1 ≠ 0)
    (h : ((((iF m x0 6) ≤ x6) → ((x5 = 0 ∨ x5 = 1) ∧ (Q (some (.int x5)) m))) ∧ (¬ ((iF m x0 6) ≤ x6) → ((mIn (x2 + x6) lx1 = true) ∧ (∀ (v_1 : Int32), v_1 = (m.2.2.1 x1 (x2 + x6).toNatClampNeg) → (((x5 = 0) → (∀ (v_2 : Int32), v_2 = (x6 + 1) → mEs d 167 b g167 (6, [some (.ref x0), some (.ref x1), some (.int x2), some (.int x3), some (.int x4), some (.int 0), some (.int v_2), some (.int v_1)], [], m) Q)) ∧ (¬ (x5 = 0) → (mEv d 162 [.ref x0, .int x3, .int x6] m (fun r m' => mEs d 167 b g167 (37, [some (.ref x0), some (.ref x1), some (.int x2), some (.int x3), some (.int x4), some (.int x5), some (.int x6), some (.int v_1)], r.toList ++ [.int v_1], m') Q))))))))) :
    mEs d 167 b g167 (6, [some (.ref x0), some (.ref x1), some (.int x2), some (.int x3), some (.int x4), some (.int x5), some (.int x6), x7], [], m) Q := by
  refine e_iload (pc' := 8) (dAt D167 4 rfl) rfl rfl ?_
  refine e_aload_n (pc' := 9) (dAt D167 5 rfl) rfl rfl ?_
  refine e_getfield (pc' := 12) (dAt D167 6 rfl) rfl rfl hOx0 (hT.int hOx0 6 (by decide)) ?_
  refine e_icmp_ge (t := 83) (pc' := 15) (dAt D167 7 rfl) ⟨by decide, by decide⟩ rfl (fun c => ?_) (fun c => ?_)
  · replace h := h.1 c
    refine e_iload (pc' := 85) (dAt D167 44 rfl) rfl rfl ?_
    obtain ⟨f1, h⟩ := h
    exact e_ireturn (dAt D167 45 rfl) rfl ⟨nb01 f1, fun e => by cases e⟩ h
  · replace h := h.2 c
    refine e_aload_n (pc' := 16) (dAt D167 8 rfl) rfl rfl ?_
    refine e_iload_n (pc' := 17) (dAt D167 9 rfl) rfl rfl ?_
    refine e_iload (pc' := 19) (dAt D167 10 rfl) rfl rfl ?_
    refine e_iadd (pc' := 20) (dAt D167 11 rfl) rfl ?_
    obtain ⟨f1, h⟩ := h
    refine e_iaload (pc' := 21) (dAt D167 12 rfl) rfl hAx1.1 (Or.inl hAx1.2) f1 rfl ?_
    replace h := h _ rfl
    refine e_istore (pc' := 23) (dAt D167 13 rfl) rfl (Nat.le_of_ble_eq_true rfl) rfl ?_
    refine e_iload (pc' := 25) (dAt D167 14 rfl) rfl rfl ?_
    refine e_if_eq (t := 74) (pc' := 28) (dAt D167 15 rfl) ⟨by decide, by decide⟩ rfl (fun c => ?_) (fun c => ?_)
    · replace h := h.1 c
      refine e_iconst (pc' := 75) (v := 0) (dAt D167 40 rfl) rfl (by decide) ?_
      refine e_istore (pc' := 77) (dAt D167 41 rfl) rfl (Nat.le_of_ble_eq_true rfl) rfl ?_
      replace h := h _ rfl
      refine e_iinc (pc' := 80) (dAt D167 42 rfl) rfl rfl (Nat.le_of_ble_eq_true rfl) (congrArg (_ + ·) (show Int32.ofInt (1) = (1 : Int32) by decide)) rfl ?_
      refine e_goto (t := 6) (dAt D167 43 rfl) ⟨by decide, by decide⟩ ?_
      exact h
    · replace h := h.2 c
      refine e_iload (pc' := 30) (dAt D167 16 rfl) rfl rfl ?_
      refine e_aload_n (pc' := 31) (dAt D167 17 rfl) rfl rfl ?_
      refine e_iload_n (pc' := 32) (dAt D167 18 rfl) rfl rfl ?_
      refine e_iload (pc' := 34) (dAt D167 19 rfl) rfl rfl ?_
      exact e_call2 h (dAt D167 20 rfl) (hi0 rfl) rfl G162 (by decide) rfl (Nat.le_of_ble_eq_true rfl) (kV hOx0 rfl rfl) rfl rfl
-- PlaceNetsModel.can.([IIII)Z, from 37
set_option maxRecDepth 20000 in
theorem bk167_37 {d b : Nat} {Q : Option Value → mMem → Prop} {m : mMem} {x0 : Nat} {x1 : Nat} {lx1 : Nat} {x2 : Int32} {x3 : Int32} {x4 : Int32} {x5 : Int32} {x6 : Int32} {x7 : Int32} {y0 : Int32} {y1 : Int32} (hT : mWT m) (hOx0 : m.1 x0 = some (.inr 8) ∧ x0 ≠ 0) (hAx1 : m.1 x1 = some (.inl (.int, lx1)) ∧ x1 ≠ 0)
    (h : (((y0 < y1) → (∀ (v_1 : Int32), v_1 = (x6 + 1) → mEs d 167 b g167 (6, [some (.ref x0), some (.ref x1), some (.int x2), some (.int x3), some (.int x4), some (.int 0), some (.int v_1), some (.int x7)], [], m) Q)) ∧ (¬ (y0 < y1) → (((x7 = 1000000) → (∀ (v_2 : Int32), v_2 = (x6 + 1) → mEs d 167 b g167 (6, [some (.ref x0), some (.ref x1), some (.int x2), some (.int x3), some (.int x4), some (.int 1), some (.int v_2), some (.int x7)], [], m) Q)) ∧ (¬ (x7 = 1000000) → (mEv d 162 [.ref x0, .int x3, .int x6] m (fun r m' => mEs d 167 b g167 (56, [some (.ref x0), some (.ref x1), some (.int x2), some (.int x3), some (.int x4), some (.int x5), some (.int x6), some (.int x7)], r.toList ++ [.int x7], m') Q))))))) :
    mEs d 167 b g167 (37, [some (.ref x0), some (.ref x1), some (.int x2), some (.int x3), some (.int x4), some (.int x5), some (.int x6), some (.int x7)], [.int y1, .int y0], m) Q := by
  refine e_icmp_lt (t := 74) (pc' := 40) (dAt D167 21 rfl) ⟨by decide, by decide⟩ rfl (fun c => ?_) (fun c => ?_)
  · replace h := h.1 c
    refine e_iconst (pc' := 75) (v := 0) (dAt D167 40 rfl) rfl (by decide) ?_
    refine e_istore (pc' := 77) (dAt D167 41 rfl) rfl (Nat.le_of_ble_eq_true rfl) rfl ?_
    replace h := h _ rfl
    refine e_iinc (pc' := 80) (dAt D167 42 rfl) rfl rfl (Nat.le_of_ble_eq_true rfl) (congrArg (_ + ·) (show Int32.ofInt (1) = (1 : Int32) by decide)) rfl ?_
    refine e_goto (t := 6) (dAt D167 43 rfl) ⟨by decide, by decide⟩ ?_
    exact h
  · replace h := h.2 c
    refine e_iload (pc' := 42) (dAt D167 22 rfl) rfl rfl ?_
    refine e_ldc (pc' := 44) (dAt D167 23 rfl) rfl rfl ?_
    refine e_icmp_eq (t := 70) (pc' := 47) (dAt D167 24 rfl) ⟨by decide, by decide⟩ rfl (fun c => ?_) (fun c => ?_)
    · replace h := h.1 c
      refine e_iconst (pc' := 71) (v := 1) (dAt D167 38 rfl) rfl (by decide) ?_
      refine e_goto (t := 75) (dAt D167 39 rfl) ⟨by decide, by decide⟩ ?_
      refine e_istore (pc' := 77) (dAt D167 41 rfl) rfl (Nat.le_of_ble_eq_true rfl) rfl ?_
      replace h := h _ rfl
      refine e_iinc (pc' := 80) (dAt D167 42 rfl) rfl rfl (Nat.le_of_ble_eq_true rfl) (congrArg (_ + ·) (show Int32.ofInt (1) = (1 : Int32) by decide)) rfl ?_
      refine e_goto (t := 6) (dAt D167 43 rfl) ⟨by decide, by decide⟩ ?_
      exact h
    · replace h := h.2 c
      refine e_iload (pc' := 49) (dAt D167 25 rfl) rfl rfl ?_
      refine e_aload_n (pc' := 50) (dAt D167 26 rfl) rfl rfl ?_
      refine e_iload_n (pc' := 51) (dAt D167 27 rfl) rfl rfl ?_
      refine e_iload (pc' := 53) (dAt D167 28 rfl) rfl rfl ?_
      exact e_call2 h (dAt D167 29 rfl) (hi0 rfl) rfl G162 (by decide) rfl (Nat.le_of_ble_eq_true rfl) (kV hOx0 rfl rfl) rfl rfl
-- PlaceNetsModel.can.([IIII)Z, from 56
set_option maxRecDepth 20000 in
theorem bk167_56 {d b : Nat} {Q : Option Value → mMem → Prop} {m : mMem} {x0 : Nat} {x1 : Nat} {lx1 : Nat} {x2 : Int32} {x3 : Int32} {x4 : Int32} {x5 : Int32} {x6 : Int32} {x7 : Int32} {y0 : Int32} {y1 : Int32} (hT : mWT m) (hOx0 : m.1 x0 = some (.inr 8) ∧ x0 ≠ 0) (hAx1 : m.1 x1 = some (.inl (.int, lx1)) ∧ x1 ≠ 0)
    (h : mEv d 163 [.ref x0, .int x3, .int x6] m (fun r m' => mEs d 167 b g167 (64, [some (.ref x0), some (.ref x1), some (.int x2), some (.int x3), some (.int x4), some (.int x5), some (.int x6), some (.int x7)], r.toList ++ [.int (y0 - y1)], m') Q)) :
    mEs d 167 b g167 (56, [some (.ref x0), some (.ref x1), some (.int x2), some (.int x3), some (.int x4), some (.int x5), some (.int x6), some (.int x7)], [.int y1, .int y0], m) Q := by
  refine e_isub (pc' := 57) (dAt D167 30 rfl) rfl ?_
  refine e_aload_n (pc' := 58) (dAt D167 31 rfl) rfl rfl ?_
  refine e_iload_n (pc' := 59) (dAt D167 32 rfl) rfl rfl ?_
  refine e_iload (pc' := 61) (dAt D167 33 rfl) rfl rfl ?_
  exact e_call2 h (dAt D167 34 rfl) (hi0 rfl) rfl G163 (by decide) rfl (Nat.le_of_ble_eq_true rfl) (kV hOx0 rfl rfl) rfl rfl
-- PlaceNetsModel.can.([IIII)Z, from 64
set_option maxRecDepth 20000 in
theorem bk167_64 {d b : Nat} {Q : Option Value → mMem → Prop} {m : mMem} {x0 : Nat} {x1 : Nat} {lx1 : Nat} {x2 : Int32} {x3 : Int32} {x4 : Int32} {x5 : Int32} {x6 : Int32} {x7 : Int32} {y0 : Int32} {y1 : Int32} (hT : mWT m) (hOx0 : m.1 x0 = some (.inr 8) ∧ x0 ≠ 0) (hAx1 : m.1 x1 = some (.inl (.int, lx1)) ∧ x1 ≠ 0)
    (h : (((x4 < (y0 + y1)) → (∀ (v_1 : Int32), v_1 = (x6 + 1) → mEs d 167 b g167 (6, [some (.ref x0), some (.ref x1), some (.int x2), some (.int x3), some (.int x4), some (.int 0), some (.int v_1), some (.int x7)], [], m) Q)) ∧ (¬ (x4 < (y0 + y1)) → (∀ (v_2 : Int32), v_2 = (x6 + 1) → mEs d 167 b g167 (6, [some (.ref x0), some (.ref x1), some (.int x2), some (.int x3), some (.int x4), some (.int 1), some (.int v_2), some (.int x7)], [], m) Q)))) :
    mEs d 167 b g167 (64, [some (.ref x0), some (.ref x1), some (.int x2), some (.int x3), some (.int x4), some (.int x5), some (.int x6), some (.int x7)], [.int y1, .int y0], m) Q := by
  refine e_iadd (pc' := 65) (dAt D167 35 rfl) rfl ?_
  refine e_iload (pc' := 67) (dAt D167 36 rfl) rfl rfl ?_
  refine e_icmp_gt (t := 74) (pc' := 70) (dAt D167 37 rfl) ⟨by decide, by decide⟩ rfl (fun c => ?_) (fun c => ?_)
  · replace h := h.1 c
    refine e_iconst (pc' := 75) (v := 0) (dAt D167 40 rfl) rfl (by decide) ?_
    refine e_istore (pc' := 77) (dAt D167 41 rfl) rfl (Nat.le_of_ble_eq_true rfl) rfl ?_
    replace h := h _ rfl
    refine e_iinc (pc' := 80) (dAt D167 42 rfl) rfl rfl (Nat.le_of_ble_eq_true rfl) (congrArg (_ + ·) (show Int32.ofInt (1) = (1 : Int32) by decide)) rfl ?_
    refine e_goto (t := 6) (dAt D167 43 rfl) ⟨by decide, by decide⟩ ?_
    exact h
  · replace h := h.2 c
    refine e_iconst (pc' := 71) (v := 1) (dAt D167 38 rfl) rfl (by decide) ?_
    refine e_goto (t := 75) (dAt D167 39 rfl) ⟨by decide, by decide⟩ ?_
    refine e_istore (pc' := 77) (dAt D167 41 rfl) rfl (Nat.le_of_ble_eq_true rfl) rfl ?_
    replace h := h _ rfl
    refine e_iinc (pc' := 80) (dAt D167 42 rfl) rfl rfl (Nat.le_of_ble_eq_true rfl) (congrArg (_ + ·) (show Int32.ofInt (1) = (1 : Int32) by decide)) rfl ?_
    refine e_goto (t := 6) (dAt D167 43 rfl) ⟨by decide, by decide⟩ ?_
    exact h
-- PlaceNetsModel.fire.(I)I, from 0
set_option maxRecDepth 20000 in
theorem bk168_0 {d b : Nat} {Q : Option Value → mMem → Prop} {m : mMem} {x0 : Nat} {x1 : Int32} (hT : mWT m) (hOx0 : m.1 x0 = some (.inr 8) ∧ x0 ≠ 0)
    (h : ∀ (m_1 : mMem), m_1 = (mSetF m x0 0 (.int 0)) → mEv d 160 [.ref x0, .int x1] m_1 (fun r m' => mEs d 168 b g168 (10, [some (.ref x0), some (.int x1)], r.toList ++ [], m') Q)) :
    mEs d 168 b g168 (0, [some (.ref x0), some (.int x1)], [], m) Q := by
  refine e_aload_n (pc' := 1) (dAt D168 0 rfl) rfl rfl ?_
  refine e_iconst (pc' := 2) (v := 0) (dAt D168 1 rfl) rfl (by decide) ?_
  replace h := h _ rfl
  refine e_putfield (pc' := 5) (dAt D168 2 rfl) rfl rfl hOx0 rfl rfl (fun e => by cases e) ?_
  refine wtF hT hOx0 (by decide) (fun hT_2 => ?_)
  refine e_aload_n (pc' := 6) (dAt D168 3 rfl) rfl rfl ?_
  refine e_iload_n (pc' := 7) (dAt D168 4 rfl) rfl rfl ?_
  exact e_call2 h (dAt D168 5 rfl) (hi0 rfl) rfl G160 (by decide) rfl (Nat.le_of_ble_eq_true rfl) (kV hOx0 rfl rfl) rfl rfl
-- PlaceNetsModel.fire.(I)I, from 10
set_option maxRecDepth 20000 in
theorem bk168_10 {d b : Nat} {Q : Option Value → mMem → Prop} {m : mMem} {x0 : Nat} {x1 : Int32} {y0 : Int32} (hT : mWT m) (hOx0 : m.1 x0 = some (.inr 8) ∧ x0 ≠ 0)
    (h : (((¬ y0 = 0) → (mEv d 167 [.ref x0, .ref (64 * x0 + 4), .int 0, .int x1, .int 99] m (fun r m' => mEs d 168 b g168 (28, [some (.ref x0), some (.int x1)], r.toList ++ [], m') Q))) ∧ (¬ (¬ y0 = 0) → (Q (some (.int ((-2)))) m)))) :
    mEs d 168 b g168 (10, [some (.ref x0), some (.int x1)], [.int y0], m) Q := by
  refine e_if_ne (t := 16) (pc' := 13) (dAt D168 6 rfl) ⟨by decide, by decide⟩ rfl (fun c => ?_) (fun c => ?_)
  · replace h := h.1 c
    refine e_aload_n (pc' := 17) (dAt D168 9 rfl) rfl rfl ?_
    refine e_aload_n (pc' := 18) (dAt D168 10 rfl) rfl rfl ?_
    refine e_getfield (pc' := 21) (dAt D168 11 rfl) rfl rfl hOx0 (hT.own hOx0 3 rfl) ?_
    refine e_iconst (pc' := 22) (v := 0) (dAt D168 12 rfl) rfl (by decide) ?_
    refine e_iload_n (pc' := 23) (dAt D168 13 rfl) rfl rfl ?_
    refine e_bipush (pc' := 25) (v := 99) (dAt D168 14 rfl) rfl (by decide) ?_
    exact e_call2 h (dAt D168 15 rfl) (hi0 rfl) rfl G167 (by decide) rfl (Nat.le_of_ble_eq_true rfl) (kV hOx0 rfl rfl) rfl rfl
  · replace h := h.2 c
    refine e_bipush (pc' := 15) (v := (-2)) (dAt D168 7 rfl) rfl (by decide) ?_
    exact e_ireturn (dAt D168 8 rfl) rfl ⟨rfl, fun e => by cases e⟩ h
-- PlaceNetsModel.fire.(I)I, from 28
set_option maxRecDepth 20000 in
theorem bk168_28 {d b : Nat} {Q : Option Value → mMem → Prop} {m : mMem} {x0 : Nat} {x1 : Int32} {y0 : Int32} (hT : mWT m) (hOx0 : m.1 x0 = some (.inr 8) ∧ x0 ≠ 0)
    (h : (((¬ y0 = 0) → (mEv d 169 [.ref x0] m (fun r m' => mEs d 168 b g168 (38, [some (.ref x0), some (.int x1)], r.toList ++ [], m') Q))) ∧ (¬ (¬ y0 = 0) → (Q (some (.int ((-3)))) m)))) :
    mEs d 168 b g168 (28, [some (.ref x0), some (.int x1)], [.int y0], m) Q := by
  refine e_if_ne (t := 34) (pc' := 31) (dAt D168 16 rfl) ⟨by decide, by decide⟩ rfl (fun c => ?_) (fun c => ?_)
  · replace h := h.1 c
    refine e_aload_n (pc' := 35) (dAt D168 19 rfl) rfl rfl ?_
    exact e_call2 h (dAt D168 20 rfl) (hi0 rfl) rfl G169 (by decide) rfl (Nat.le_of_ble_eq_true rfl) (kV hOx0 rfl rfl) rfl rfl
  · replace h := h.2 c
    refine e_bipush (pc' := 33) (v := (-3)) (dAt D168 17 rfl) rfl (by decide) ?_
    exact e_ireturn (dAt D168 18 rfl) rfl ⟨rfl, fun e => by cases e⟩ h
-- PlaceNetsModel.fire.(I)I, from 38
set_option maxRecDepth 20000 in
theorem bk168_38 {d b : Nat} {Q : Option Value → mMem → Prop} {m : mMem} {x0 : Nat} {x1 : Int32} (hT : mWT m) (hOx0 : m.1 x0 = some (.inr 8) ∧ x0 ≠ 0)
    (h : mEv d 170 [.ref x0, .int x1] m (fun r m' => mEs d 168 b g168 (43, [some (.ref x0), some (.int x1)], r.toList ++ [], m') Q)) :
    mEs d 168 b g168 (38, [some (.ref x0), some (.int x1)], [], m) Q := by
  refine e_aload_n (pc' := 39) (dAt D168 21 rfl) rfl rfl ?_
  refine e_iload_n (pc' := 40) (dAt D168 22 rfl) rfl rfl ?_
  exact e_call2 h (dAt D168 23 rfl) (hi0 rfl) rfl G170 (by decide) rfl (Nat.le_of_ble_eq_true rfl) (kV hOx0 rfl rfl) rfl rfl
-- PlaceNetsModel.fire.(I)I, from 43
set_option maxRecDepth 20000 in
theorem bk168_43 {d b : Nat} {Q : Option Value → mMem → Prop} {m : mMem} {x0 : Nat} {x1 : Int32} (hT : mWT m) (hOx0 : m.1 x0 = some (.inr 8) ∧ x0 ≠ 0)
    (h : mEv d 166 [.ref x0, .ref (64 * x0 + 4), .int 0] m (fun r m' => mEs d 168 b g168 (52, [some (.ref x0), some (.int x1)], r.toList ++ [], m') Q)) :
    mEs d 168 b g168 (43, [some (.ref x0), some (.int x1)], [], m) Q := by
  refine e_aload_n (pc' := 44) (dAt D168 24 rfl) rfl rfl ?_
  refine e_aload_n (pc' := 45) (dAt D168 25 rfl) rfl rfl ?_
  refine e_getfield (pc' := 48) (dAt D168 26 rfl) rfl rfl hOx0 (hT.own hOx0 3 rfl) ?_
  refine e_iconst (pc' := 49) (v := 0) (dAt D168 27 rfl) rfl (by decide) ?_
  exact e_call2 h (dAt D168 28 rfl) (hi0 rfl) rfl G166 (by decide) rfl (Nat.le_of_ble_eq_true rfl) (kV hOx0 rfl rfl) rfl rfl
-- PlaceNetsModel.fire.(I)I, from 52
set_option maxRecDepth 20000 in
theorem bk168_52 {d b : Nat} {Q : Option Value → mMem → Prop} {m : mMem} {x0 : Nat} {x1 : Int32} {y0 : Int32} (hT : mWT m) (hOx0 : m.1 x0 = some (.inr 8) ∧ x0 ≠ 0)
    (h : mEv d 171 [.int y0] m (fun r m' => mEs d 168 b g168 (55, [some (.ref x0), some (.int x1)], r.toList ++ [], m') Q)) :
    mEs d 168 b g168 (52, [some (.ref x0), some (.int x1)], [.int y0], m) Q := by
  exact e_call2 h (dAt D168 29 rfl) (hi2 rfl) rfl G171 (by decide) rfl (Nat.le_of_ble_eq_true rfl) rfl rfl rfl
-- PlaceNetsModel.fire.(I)I, from 55
set_option maxRecDepth 20000 in
theorem bk168_55 {d b : Nat} {Q : Option Value → mMem → Prop} {m : mMem} {x0 : Nat} {x1 : Int32} {y0 : Int32} (hT : mWT m) (hOx0 : m.1 x0 = some (.inr 8) ∧ x0 ≠ 0)
    (h : Q (some (.int y0)) m) :
    mEs d 168 b g168 (55, [some (.ref x0), some (.int x1)], [.int y0], m) Q := by
  exact e_ireturn (dAt D168 30 rfl) rfl ⟨rfl, fun e => by cases e⟩ h
-- PlaceNetsModel.remember.()V, from 0
set_option maxRecDepth 20000 in
theorem bk169_0 {d b : Nat} {Q : Option Value → mMem → Prop} {m : mMem} {x0 : Nat} {x1 : Option Value} (hT : mWT m) (hOx0 : m.1 x0 = some (.inr 8) ∧ x0 ≠ 0)
    (h : (((¬ (iF m x0 20) = 10) → (mEs d 169 b g169 (55, [some (.ref x0), some (.int 0)], [], m) Q)) ∧ (¬ (¬ (iF m x0 20) = 10) → (∀ (m_1 : mMem), m_1 = (mSetF m x0 20 (.int ((iF m x0 20) - 1))) → mEs d 169 b g169 (21, [some (.ref x0), some (.int 0)], [], m_1) Q)))) :
    mEs d 169 b g169 (0, [some (.ref x0), x1], [], m) Q := by
  refine e_aload_n (pc' := 1) (dAt D169 0 rfl) rfl rfl ?_
  refine e_getfield (pc' := 4) (dAt D169 1 rfl) rfl rfl hOx0 (hT.int hOx0 20 (by decide)) ?_
  refine e_bipush (pc' := 6) (v := 10) (dAt D169 2 rfl) rfl (by decide) ?_
  refine e_icmp_ne (t := 53) (pc' := 9) (dAt D169 3 rfl) ⟨by decide, by decide⟩ rfl (fun c => ?_) (fun c => ?_)
  · replace h := h.1 c
    refine e_iconst (pc' := 54) (v := 0) (dAt D169 30 rfl) rfl (by decide) ?_
    refine e_istore_n (pc' := 55) (dAt D169 31 rfl) rfl (Nat.le_of_ble_eq_true rfl) rfl ?_
    exact h
  · replace h := h.2 c
    refine e_aload_n (pc' := 10) (dAt D169 4 rfl) rfl rfl ?_
    refine e_dup (pc' := 11) (dAt D169 5 rfl) rfl rfl ?_
    refine e_getfield (pc' := 14) (dAt D169 6 rfl) rfl rfl hOx0 (hT.int hOx0 20 (by decide)) ?_
    refine e_iconst (pc' := 15) (v := 1) (dAt D169 7 rfl) rfl (by decide) ?_
    refine e_isub (pc' := 16) (dAt D169 8 rfl) rfl ?_
    replace h := h _ rfl
    refine e_putfield (pc' := 19) (dAt D169 9 rfl) rfl rfl hOx0 rfl rfl (fun e => by cases e) ?_
    refine wtF hT hOx0 (by decide) (fun hT_2 => ?_)
    refine e_iconst (pc' := 20) (v := 0) (dAt D169 10 rfl) rfl (by decide) ?_
    refine e_istore_n (pc' := 21) (dAt D169 11 rfl) rfl (Nat.le_of_ble_eq_true rfl) rfl ?_
    exact h
-- PlaceNetsModel.remember.()V, from 21
set_option maxRecDepth 20000 in
theorem bk169_21 {d b : Nat} {Q : Option Value → mMem → Prop} {m : mMem} {x0 : Nat} {x1 : Int32} (hT : mWT m) (hOx0 : m.1 x0 = some (.inr 8) ∧ x0 ≠ 0)
    (h : ((((10 * (iF m x0 20)) ≤ x1) → (mEs d 169 b g169 (55, [some (.ref x0), some (.int 0)], [], m) Q)) ∧ (¬ ((10 * (iF m x0 20)) ≤ x1) → ((mIn (x1 + 10) 100 = true) ∧ ((mIn x1 100 = true) ∧ (∀ (m_1 : mMem), m_1 = (mSetI m (64 * x0 + 10) (upd (m.2.2.1 (64 * x0 + 10)) x1.toNatClampNeg (m.2.2.1 (64 * x0 + 10) (x1 + 10).toNatClampNeg))) → ∀ (v_3 : Int32), v_3 = (x1 + 1) → mEs d 169 b g169 (21, [some (.ref x0), some (.int v_3)], [], m_1) Q)))))) :
    mEs d 169 b g169 (21, [some (.ref x0), some (.int x1)], [], m) Q := by
  refine e_iload_n (pc' := 22) (dAt D169 12 rfl) rfl rfl ?_
  refine e_bipush (pc' := 24) (v := 10) (dAt D169 13 rfl) rfl (by decide) ?_
  refine e_aload_n (pc' := 25) (dAt D169 14 rfl) rfl rfl ?_
  refine e_getfield (pc' := 28) (dAt D169 15 rfl) rfl rfl hOx0 (hT.int hOx0 20 (by decide)) ?_
  refine e_imul (pc' := 29) (dAt D169 16 rfl) rfl ?_
  refine e_icmp_ge (t := 53) (pc' := 32) (dAt D169 17 rfl) ⟨by decide, by decide⟩ rfl (fun c => ?_) (fun c => ?_)
  · replace h := h.1 c
    refine e_iconst (pc' := 54) (v := 0) (dAt D169 30 rfl) rfl (by decide) ?_
    refine e_istore_n (pc' := 55) (dAt D169 31 rfl) rfl (Nat.le_of_ble_eq_true rfl) rfl ?_
    exact h
  · replace h := h.2 c
    refine e_aload_n (pc' := 33) (dAt D169 18 rfl) rfl rfl ?_
    refine e_getfield (pc' := 36) (dAt D169 19 rfl) rfl rfl hOx0 (hT.own hOx0 9 rfl) ?_
    refine e_iload_n (pc' := 37) (dAt D169 20 rfl) rfl rfl ?_
    refine e_aload_n (pc' := 38) (dAt D169 21 rfl) rfl rfl ?_
    refine e_getfield (pc' := 41) (dAt D169 22 rfl) rfl rfl hOx0 (hT.own hOx0 9 rfl) ?_
    refine e_iload_n (pc' := 42) (dAt D169 23 rfl) rfl rfl ?_
    refine e_bipush (pc' := 44) (v := 10) (dAt D169 24 rfl) rfl (by decide) ?_
    refine e_iadd (pc' := 45) (dAt D169 25 rfl) rfl ?_
    obtain ⟨f1, h⟩ := h
    refine e_iaload (pc' := 46) (dAt D169 26 rfl) rfl (hT.arr hOx0 9 rfl (by decide)).1 (Or.inl (hT.arr hOx0 9 rfl (by decide)).2) f1 rfl ?_
    obtain ⟨f1, h⟩ := h
    replace h := h _ rfl
    refine e_iastore (pc' := 47) (dAt D169 27 rfl) rfl (hT.arr hOx0 9 rfl (by decide)).1 (hT.arr hOx0 9 rfl (by decide)).2 f1 (nar_i _) ?_
    refine wtI hT (fun hT_2 => ?_)
    replace h := h _ rfl
    refine e_iinc (pc' := 50) (dAt D169 28 rfl) rfl rfl (Nat.le_of_ble_eq_true rfl) (congrArg (_ + ·) (show Int32.ofInt (1) = (1 : Int32) by decide)) rfl ?_
    refine e_goto (t := 21) (dAt D169 29 rfl) ⟨by decide, by decide⟩ ?_
    exact h
-- PlaceNetsModel.remember.()V, from 55
set_option maxRecDepth 20000 in
theorem bk169_55 {d b : Nat} {Q : Option Value → mMem → Prop} {m : mMem} {x0 : Nat} {x1 : Int32} (hT : mWT m) (hOx0 : m.1 x0 = some (.inr 8) ∧ x0 ≠ 0)
    (h : (((10 ≤ x1) → (∀ (m_1 : mMem), m_1 = (mSetF m x0 20 (.int ((iF m x0 20) + 1))) → mEv d 158 [.ref x0] m_1 (fun r m' => mEs d 169 b g169 (101, [some (.ref x0), some (.int x1)], r.toList ++ [], m') Q))) ∧ (¬ (10 ≤ x1) → ((mIn x1 10 = true) ∧ ((mIn ((10 * (iF m x0 20)) + x1) 100 = true) ∧ (∀ (m_3 : mMem), m_3 = (mSetI m (64 * x0 + 10) (upd (m.2.2.1 (64 * x0 + 10)) ((10 * (iF m x0 20)) + x1).toNatClampNeg (m.2.2.1 (64 * x0 + 4) x1.toNatClampNeg))) → ∀ (v_5 : Int32), v_5 = (x1 + 1) → mEs d 169 b g169 (55, [some (.ref x0), some (.int v_5)], [], m_3) Q)))))) :
    mEs d 169 b g169 (55, [some (.ref x0), some (.int x1)], [], m) Q := by
  refine e_iload_n (pc' := 56) (dAt D169 32 rfl) rfl rfl ?_
  refine e_bipush (pc' := 58) (v := 10) (dAt D169 33 rfl) rfl (by decide) ?_
  refine e_icmp_ge (t := 87) (pc' := 61) (dAt D169 34 rfl) ⟨by decide, by decide⟩ rfl (fun c => ?_) (fun c => ?_)
  · replace h := h.1 c
    refine e_aload_n (pc' := 88) (dAt D169 50 rfl) rfl rfl ?_
    refine e_dup (pc' := 89) (dAt D169 51 rfl) rfl rfl ?_
    refine e_getfield (pc' := 92) (dAt D169 52 rfl) rfl rfl hOx0 (hT.int hOx0 20 (by decide)) ?_
    refine e_iconst (pc' := 93) (v := 1) (dAt D169 53 rfl) rfl (by decide) ?_
    refine e_iadd (pc' := 94) (dAt D169 54 rfl) rfl ?_
    replace h := h _ rfl
    refine e_putfield (pc' := 97) (dAt D169 55 rfl) rfl rfl hOx0 rfl rfl (fun e => by cases e) ?_
    refine wtF hT hOx0 (by decide) (fun hT_2 => ?_)
    refine e_aload_n (pc' := 98) (dAt D169 56 rfl) rfl rfl ?_
    exact e_call2 h (dAt D169 57 rfl) (hi0 rfl) rfl G158 (by decide) rfl (Nat.le_of_ble_eq_true rfl) (kV hOx0 rfl rfl) rfl rfl
  · replace h := h.2 c
    refine e_aload_n (pc' := 62) (dAt D169 35 rfl) rfl rfl ?_
    refine e_getfield (pc' := 65) (dAt D169 36 rfl) rfl rfl hOx0 (hT.own hOx0 9 rfl) ?_
    refine e_bipush (pc' := 67) (v := 10) (dAt D169 37 rfl) rfl (by decide) ?_
    refine e_aload_n (pc' := 68) (dAt D169 38 rfl) rfl rfl ?_
    refine e_getfield (pc' := 71) (dAt D169 39 rfl) rfl rfl hOx0 (hT.int hOx0 20 (by decide)) ?_
    refine e_imul (pc' := 72) (dAt D169 40 rfl) rfl ?_
    refine e_iload_n (pc' := 73) (dAt D169 41 rfl) rfl rfl ?_
    refine e_iadd (pc' := 74) (dAt D169 42 rfl) rfl ?_
    refine e_aload_n (pc' := 75) (dAt D169 43 rfl) rfl rfl ?_
    refine e_getfield (pc' := 78) (dAt D169 44 rfl) rfl rfl hOx0 (hT.own hOx0 3 rfl) ?_
    refine e_iload_n (pc' := 79) (dAt D169 45 rfl) rfl rfl ?_
    obtain ⟨f1, h⟩ := h
    refine e_iaload (pc' := 80) (dAt D169 46 rfl) rfl (hT.arr hOx0 3 rfl (by decide)).1 (Or.inl (hT.arr hOx0 3 rfl (by decide)).2) f1 rfl ?_
    obtain ⟨f1, h⟩ := h
    replace h := h _ rfl
    refine e_iastore (pc' := 81) (dAt D169 47 rfl) rfl (hT.arr hOx0 9 rfl (by decide)).1 (hT.arr hOx0 9 rfl (by decide)).2 f1 (nar_i _) ?_
    refine wtI hT (fun hT_4 => ?_)
    replace h := h _ rfl
    refine e_iinc (pc' := 84) (dAt D169 48 rfl) rfl rfl (Nat.le_of_ble_eq_true rfl) (congrArg (_ + ·) (show Int32.ofInt (1) = (1 : Int32) by decide)) rfl ?_
    refine e_goto (t := 55) (dAt D169 49 rfl) ⟨by decide, by decide⟩ ?_
    exact h
-- PlaceNetsModel.remember.()V, from 101
set_option maxRecDepth 20000 in
theorem bk169_101 {d b : Nat} {Q : Option Value → mMem → Prop} {m : mMem} {x0 : Nat} {x1 : Int32} (hT : mWT m) (hOx0 : m.1 x0 = some (.inr 8) ∧ x0 ≠ 0)
    (h : Q none m) :
    mEs d 169 b g169 (101, [some (.ref x0), some (.int x1)], [], m) Q := by
  exact e_return (dAt D169 58 rfl) rfl h
-- PlaceNetsModel.fireNow.(I)V, from 0
set_option maxRecDepth 20000 in
theorem bk170_0 {d b : Nat} {Q : Option Value → mMem → Prop} {m : mMem} {x0 : Nat} {x1 : Int32} {x2 : Option Value} (hT : mWT m) (hOx0 : m.1 x0 = some (.inr 8) ∧ x0 ≠ 0)
    (h : mEs d 170 b g170 (2, [some (.ref x0), some (.int x1), some (.int 0)], [], m) Q) :
    mEs d 170 b g170 (0, [some (.ref x0), some (.int x1), x2], [], m) Q := by
  refine e_iconst (pc' := 1) (v := 0) (dAt D170 0 rfl) rfl (by decide) ?_
  refine e_istore_n (pc' := 2) (dAt D170 1 rfl) rfl (Nat.le_of_ble_eq_true rfl) rfl ?_
  exact h
-- PlaceNetsModel.fireNow.(I)V, from 2
set_option maxRecDepth 20000 in
theorem bk170_2 {d b : Nat} {Q : Option Value → mMem → Prop} {m : mMem} {x0 : Nat} {x1 : Int32} {x2 : Int32} (hT : mWT m) (hOx0 : m.1 x0 = some (.inr 8) ∧ x0 ≠ 0)
    (h : ((((iF m x0 6) ≤ x2) → (Q none m)) ∧ (¬ ((iF m x0 6) ≤ x2) → ((mIn x2 10 = true) ∧ (mEv d 163 [.ref x0, .int x1, .int x2] m (fun r m' => mEs d 170 b g170 (23, [some (.ref x0), some (.int x1), some (.int x2)], r.toList ++ [.int (m.2.2.1 (64 * x0 + 4) x2.toNatClampNeg), .int x2, .ref (64 * x0 + 4)], m') Q)))))) :
    mEs d 170 b g170 (2, [some (.ref x0), some (.int x1), some (.int x2)], [], m) Q := by
  refine e_iload_n (pc' := 3) (dAt D170 2 rfl) rfl rfl ?_
  refine e_aload_n (pc' := 4) (dAt D170 3 rfl) rfl rfl ?_
  refine e_getfield (pc' := 7) (dAt D170 4 rfl) rfl rfl hOx0 (hT.int hOx0 6 (by decide)) ?_
  refine e_icmp_ge (t := 38) (pc' := 10) (dAt D170 5 rfl) ⟨by decide, by decide⟩ rfl (fun c => ?_) (fun c => ?_)
  · replace h := h.1 c
    exact e_return (dAt D170 24 rfl) rfl h
  · replace h := h.2 c
    refine e_aload_n (pc' := 11) (dAt D170 6 rfl) rfl rfl ?_
    refine e_getfield (pc' := 14) (dAt D170 7 rfl) rfl rfl hOx0 (hT.own hOx0 3 rfl) ?_
    refine e_iload_n (pc' := 15) (dAt D170 8 rfl) rfl rfl ?_
    refine e_dup2 (pc' := 16) (dAt D170 9 rfl) rfl ⟨rfl, rfl⟩ ?_
    obtain ⟨f1, h⟩ := h
    refine e_iaload (pc' := 17) (dAt D170 10 rfl) rfl (hT.arr hOx0 3 rfl (by decide)).1 (Or.inl (hT.arr hOx0 3 rfl (by decide)).2) f1 rfl ?_
    refine e_aload_n (pc' := 18) (dAt D170 11 rfl) rfl rfl ?_
    refine e_iload_n (pc' := 19) (dAt D170 12 rfl) rfl rfl ?_
    refine e_iload_n (pc' := 20) (dAt D170 13 rfl) rfl rfl ?_
    exact e_call2 h (dAt D170 14 rfl) (hi0 rfl) rfl G163 (by decide) rfl (Nat.le_of_ble_eq_true rfl) (kV hOx0 rfl rfl) rfl rfl
-- PlaceNetsModel.fireNow.(I)V, from 23
set_option maxRecDepth 20000 in
theorem bk170_23 {d b : Nat} {Q : Option Value → mMem → Prop} {m : mMem} {x0 : Nat} {x1 : Int32} {x2 : Int32} {y0 : Nat} {ly0 : Nat} {y1 : Int32} {y2 : Int32} {y3 : Int32} (hT : mWT m) (hOx0 : m.1 x0 = some (.inr 8) ∧ x0 ≠ 0) (hAy0 : m.1 y0 = some (.inl (.int, ly0)) ∧ y0 ≠ 0)
    (h : mEv d 162 [.ref x0, .int x1, .int x2] m (fun r m' => mEs d 170 b g170 (29, [some (.ref x0), some (.int x1), some (.int x2)], r.toList ++ [.int y3, .int y2, .int y1, .ref y0], m') Q)) :
    mEs d 170 b g170 (23, [some (.ref x0), some (.int x1), some (.int x2)], [.int y3, .int y2, .int y1, .ref y0], m) Q := by
  refine e_aload_n (pc' := 24) (dAt D170 15 rfl) rfl rfl ?_
  refine e_iload_n (pc' := 25) (dAt D170 16 rfl) rfl rfl ?_
  refine e_iload_n (pc' := 26) (dAt D170 17 rfl) rfl rfl ?_
  exact e_call2 h (dAt D170 18 rfl) (hi0 rfl) rfl G162 (by decide) rfl (Nat.le_of_ble_eq_true rfl) (kV hOx0 rfl rfl) rfl rfl
-- PlaceNetsModel.fireNow.(I)V, from 29
set_option maxRecDepth 20000 in
theorem bk170_29 {d b : Nat} {Q : Option Value → mMem → Prop} {m : mMem} {x0 : Nat} {x1 : Int32} {x2 : Int32} {y0 : Nat} {ly0 : Nat} {y1 : Int32} {y2 : Int32} {y3 : Int32} {y4 : Int32} (hT : mWT m) (hOx0 : m.1 x0 = some (.inr 8) ∧ x0 ≠ 0) (hAy0 : m.1 y0 = some (.inl (.int, ly0)) ∧ y0 ≠ 0)
    (h : (mIn y1 ly0 = true) ∧ (∀ (m_1 : mMem), m_1 = (mSetI m y0 (upd (m.2.2.1 y0) y1.toNatClampNeg (y2 + (y3 - y4)))) → ∀ (v_3 : Int32), v_3 = (x2 + 1) → mEs d 170 b g170 (2, [some (.ref x0), some (.int x1), some (.int v_3)], [], m_1) Q)) :
    mEs d 170 b g170 (29, [some (.ref x0), some (.int x1), some (.int x2)], [.int y4, .int y3, .int y2, .int y1, .ref y0], m) Q := by
  refine e_isub (pc' := 30) (dAt D170 19 rfl) rfl ?_
  refine e_iadd (pc' := 31) (dAt D170 20 rfl) rfl ?_
  obtain ⟨f1, h⟩ := h
  replace h := h _ rfl
  refine e_iastore (pc' := 32) (dAt D170 21 rfl) rfl hAy0.1 hAy0.2 f1 (nar_i _) ?_
  refine wtI hT (fun hT_2 => ?_)
  replace h := h _ rfl
  refine e_iinc (pc' := 35) (dAt D170 22 rfl) rfl rfl (Nat.le_of_ble_eq_true rfl) (congrArg (_ + ·) (show Int32.ofInt (1) = (1 : Int32) by decide)) rfl ?_
  refine e_goto (t := 2) (dAt D170 23 rfl) ⟨by decide, by decide⟩ ?_
  exact h
-- PlaceNetsModel.ones.(I)I, from 0
set_option maxRecDepth 20000 in
theorem bk171_0 {d b : Nat} {Q : Option Value → mMem → Prop} {m : mMem} {x0 : Int32} {x1 : Option Value} {x2 : Option Value} (hT : mWT m)
    (h : mEs d 171 b g171 (4, [some (.int x0), some (.int 0), some (.int x0)], [], m) Q) :
    mEs d 171 b g171 (0, [some (.int x0), x1, x2], [], m) Q := by
  refine e_iconst (pc' := 1) (v := 0) (dAt D171 0 rfl) rfl (by decide) ?_
  refine e_istore_n (pc' := 2) (dAt D171 1 rfl) rfl (Nat.le_of_ble_eq_true rfl) rfl ?_
  refine e_iload_n (pc' := 3) (dAt D171 2 rfl) rfl rfl ?_
  refine e_istore_n (pc' := 4) (dAt D171 3 rfl) rfl (Nat.le_of_ble_eq_true rfl) rfl ?_
  exact h
-- PlaceNetsModel.ones.(I)I, from 4
set_option maxRecDepth 20000 in
theorem bk171_4 {d b : Nat} {Q : Option Value → mMem → Prop} {m : mMem} {x0 : Int32} {x1 : Int32} {x2 : Int32} (hT : mWT m)
    (h : (((x2 = 0) → (Q (some (.int x1)) m)) ∧ (¬ (x2 = 0) → (∀ (v_1 : Int32), v_1 = (x1 + 1) → ∀ (v_2 : Int32), v_2 = (x2 &&& (x2 - 1)) → mEs d 171 b g171 (4, [some (.int x0), some (.int v_1), some (.int v_2)], [], m) Q)))) :
    mEs d 171 b g171 (4, [some (.int x0), some (.int x1), some (.int x2)], [], m) Q := by
  refine e_iload_n (pc' := 5) (dAt D171 4 rfl) rfl rfl ?_
  refine e_if_eq (t := 20) (pc' := 8) (dAt D171 5 rfl) ⟨by decide, by decide⟩ rfl (fun c => ?_) (fun c => ?_)
  · replace h := h.1 c
    refine e_iload_n (pc' := 21) (dAt D171 14 rfl) rfl rfl ?_
    exact e_ireturn (dAt D171 15 rfl) rfl ⟨rfl, fun e => by cases e⟩ h
  · replace h := h.2 c
    replace h := h _ rfl
    refine e_iinc (pc' := 11) (dAt D171 6 rfl) rfl rfl (Nat.le_of_ble_eq_true rfl) (congrArg (_ + ·) (show Int32.ofInt (1) = (1 : Int32) by decide)) rfl ?_
    refine e_iload_n (pc' := 12) (dAt D171 7 rfl) rfl rfl ?_
    refine e_iload_n (pc' := 13) (dAt D171 8 rfl) rfl rfl ?_
    refine e_iconst (pc' := 14) (v := 1) (dAt D171 9 rfl) rfl (by decide) ?_
    refine e_isub (pc' := 15) (dAt D171 10 rfl) rfl ?_
    refine e_iand (pc' := 16) (dAt D171 11 rfl) rfl ?_
    replace h := h _ rfl
    refine e_istore_n (pc' := 17) (dAt D171 12 rfl) rfl (Nat.le_of_ble_eq_true rfl) rfl ?_
    refine e_goto (t := 4) (dAt D171 13 rfl) ⟨by decide, by decide⟩ ?_
    exact h
-- PlaceNetsModel.put.(II)I, from 0
set_option maxRecDepth 20000 in
theorem bk172_0 {d b : Nat} {Q : Option Value → mMem → Prop} {m : mMem} {x0 : Nat} {x1 : Int32} {x2 : Int32} {x3 : Option Value} (hT : mWT m) (hOx0 : m.1 x0 = some (.inr 8) ∧ x0 ≠ 0)
    (h : ∀ (m_1 : mMem), m_1 = (mSetF m x0 0 (.int 0)) → mEv d 151 [.long x2.toInt64, .long 0, .long 99] m_1 (fun r m' => mEs d 172 b g172 (14, [some (.ref x0), some (.int x1), some (.int x2), x3], r.toList ++ [], m') Q)) :
    mEs d 172 b g172 (0, [some (.ref x0), some (.int x1), some (.int x2), x3], [], m) Q := by
  refine e_aload_n (pc' := 1) (dAt D172 0 rfl) rfl rfl ?_
  refine e_iconst (pc' := 2) (v := 0) (dAt D172 1 rfl) rfl (by decide) ?_
  replace h := h _ rfl
  refine e_putfield (pc' := 5) (dAt D172 2 rfl) rfl rfl hOx0 rfl rfl (fun e => by cases e) ?_
  refine wtF hT hOx0 (by decide) (fun hT_2 => ?_)
  refine e_iload_n (pc' := 6) (dAt D172 3 rfl) rfl rfl ?_
  refine e_i2l (pc' := 7) (dAt D172 4 rfl) rfl ?_
  refine e_lconst (pc' := 8) (v := 0) (dAt D172 5 rfl) rfl (by decide) ?_
  refine e_ldc2_w (pc' := 11) (dAt D172 6 rfl) rfl rfl ?_
  exact e_call2 h (dAt D172 7 rfl) (hi2 rfl) rfl G151 (by decide) rfl (Nat.le_of_ble_eq_true rfl) rfl rfl rfl
-- PlaceNetsModel.put.(II)I, from 14
set_option maxRecDepth 20000 in
theorem bk172_14 {d b : Nat} {Q : Option Value → mMem → Prop} {m : mMem} {x0 : Nat} {x1 : Int32} {x2 : Int32} {x3 : Option Value} {y0 : Int32} (hT : mWT m) (hOx0 : m.1 x0 = some (.inr 8) ∧ x0 ≠ 0)
    (h : (((¬ y0 = 0) → (mEv d 161 [.ref x0, .int x1] m (fun r m' => mEs d 172 b g172 (24, [some (.ref x0), some (.int x1), some (.int x2), x3], r.toList ++ [], m') Q))) ∧ (¬ (¬ y0 = 0) → (Q (some (.int ((-1)))) m)))) :
    mEs d 172 b g172 (14, [some (.ref x0), some (.int x1), some (.int x2), x3], [.int y0], m) Q := by
  refine e_if_ne (t := 19) (pc' := 17) (dAt D172 8 rfl) ⟨by decide, by decide⟩ rfl (fun c => ?_) (fun c => ?_)
  · replace h := h.1 c
    refine e_aload_n (pc' := 20) (dAt D172 11 rfl) rfl rfl ?_
    refine e_iload_n (pc' := 21) (dAt D172 12 rfl) rfl rfl ?_
    exact e_call2 h (dAt D172 13 rfl) (hi0 rfl) rfl G161 (by decide) rfl (Nat.le_of_ble_eq_true rfl) (kV hOx0 rfl rfl) rfl rfl
  · replace h := h.2 c
    refine e_iconst (pc' := 18) (v := (-1)) (dAt D172 9 rfl) rfl (by decide) ?_
    exact e_ireturn (dAt D172 10 rfl) rfl ⟨rfl, fun e => by cases e⟩ h
-- PlaceNetsModel.put.(II)I, from 24
set_option maxRecDepth 20000 in
theorem bk172_24 {d b : Nat} {Q : Option Value → mMem → Prop} {m : mMem} {x0 : Nat} {x1 : Int32} {x2 : Int32} {x3 : Option Value} {y0 : Int32} (hT : mWT m) (hOx0 : m.1 x0 = some (.inr 8) ∧ x0 ≠ 0)
    (h : (((¬ y0 = 0) → (mEv d 169 [.ref x0] m (fun r m' => mEs d 172 b g172 (34, [some (.ref x0), some (.int x1), some (.int x2), x3], r.toList ++ [], m') Q))) ∧ (¬ (¬ y0 = 0) → (Q (some (.int ((-2)))) m)))) :
    mEs d 172 b g172 (24, [some (.ref x0), some (.int x1), some (.int x2), x3], [.int y0], m) Q := by
  refine e_if_ne (t := 30) (pc' := 27) (dAt D172 14 rfl) ⟨by decide, by decide⟩ rfl (fun c => ?_) (fun c => ?_)
  · replace h := h.1 c
    refine e_aload_n (pc' := 31) (dAt D172 17 rfl) rfl rfl ?_
    exact e_call2 h (dAt D172 18 rfl) (hi0 rfl) rfl G169 (by decide) rfl (Nat.le_of_ble_eq_true rfl) (kV hOx0 rfl rfl) rfl rfl
  · replace h := h.2 c
    refine e_bipush (pc' := 29) (v := (-2)) (dAt D172 15 rfl) rfl (by decide) ?_
    exact e_ireturn (dAt D172 16 rfl) rfl ⟨rfl, fun e => by cases e⟩ h
-- PlaceNetsModel.put.(II)I, from 34
set_option maxRecDepth 20000 in
theorem bk172_34 {d b : Nat} {Q : Option Value → mMem → Prop} {m : mMem} {x0 : Nat} {x1 : Int32} {x2 : Int32} {x3 : Option Value} (hT : mWT m) (hOx0 : m.1 x0 = some (.inr 8) ∧ x0 ≠ 0)
    (h : (mIn x1 10 = true) ∧ (∀ (v_1 : Int32), v_1 = (m.2.2.1 (64 * x0 + 4) x1.toNatClampNeg) → (mIn x1 10 = true) ∧ (∀ (m_2 : mMem), m_2 = (mSetI m (64 * x0 + 4) (upd (m.2.2.1 (64 * x0 + 4)) x1.toNatClampNeg x2)) → Q (some (.int v_1)) m_2))) :
    mEs d 172 b g172 (34, [some (.ref x0), some (.int x1), some (.int x2), x3], [], m) Q := by
  refine e_aload_n (pc' := 35) (dAt D172 19 rfl) rfl rfl ?_
  refine e_getfield (pc' := 38) (dAt D172 20 rfl) rfl rfl hOx0 (hT.own hOx0 3 rfl) ?_
  refine e_iload_n (pc' := 39) (dAt D172 21 rfl) rfl rfl ?_
  obtain ⟨f1, h⟩ := h
  refine e_iaload (pc' := 40) (dAt D172 22 rfl) rfl (hT.arr hOx0 3 rfl (by decide)).1 (Or.inl (hT.arr hOx0 3 rfl (by decide)).2) f1 rfl ?_
  replace h := h _ rfl
  refine e_istore_n (pc' := 41) (dAt D172 23 rfl) rfl (Nat.le_of_ble_eq_true rfl) rfl ?_
  refine e_aload_n (pc' := 42) (dAt D172 24 rfl) rfl rfl ?_
  refine e_getfield (pc' := 45) (dAt D172 25 rfl) rfl rfl hOx0 (hT.own hOx0 3 rfl) ?_
  refine e_iload_n (pc' := 46) (dAt D172 26 rfl) rfl rfl ?_
  refine e_iload_n (pc' := 47) (dAt D172 27 rfl) rfl rfl ?_
  obtain ⟨f1, h⟩ := h
  replace h := h _ rfl
  refine e_iastore (pc' := 48) (dAt D172 28 rfl) rfl (hT.arr hOx0 3 rfl (by decide)).1 (hT.arr hOx0 3 rfl (by decide)).2 f1 (nar_i _) ?_
  refine wtI hT (fun hT_3 => ?_)
  refine e_iload_n (pc' := 49) (dAt D172 29 rfl) rfl rfl ?_
  exact e_ireturn (dAt D172 30 rfl) rfl ⟨rfl, fun e => by cases e⟩ h
-- PlaceNetsModel.run.(II)I, from 0
set_option maxRecDepth 20000 in
theorem bk173_0 {d b : Nat} {Q : Option Value → mMem → Prop} {m : mMem} {x0 : Nat} {x1 : Int32} {x2 : Int32} {x3 : Option Value} {x4 : Option Value} {x5 : Option Value} {x6 : Option Value} (hT : mWT m) (hOx0 : m.1 x0 = some (.inr 8) ∧ x0 ≠ 0)
    (h : ∀ (m_1 : mMem), m_1 = (mSetF m x0 0 (.int 0)) → mEv d 151 [.long x1.toInt64, .long 0, .long 999999] m_1 (fun r m' => mEs d 173 b g173 (14, [some (.ref x0), some (.int x1), some (.int x2), x3, x4, x5, x6], r.toList ++ [], m') Q)) :
    mEs d 173 b g173 (0, [some (.ref x0), some (.int x1), some (.int x2), x3, x4, x5, x6], [], m) Q := by
  refine e_aload_n (pc' := 1) (dAt D173 0 rfl) rfl rfl ?_
  refine e_iconst (pc' := 2) (v := 0) (dAt D173 1 rfl) rfl (by decide) ?_
  replace h := h _ rfl
  refine e_putfield (pc' := 5) (dAt D173 2 rfl) rfl rfl hOx0 rfl rfl (fun e => by cases e) ?_
  refine wtF hT hOx0 (by decide) (fun hT_2 => ?_)
  refine e_iload_n (pc' := 6) (dAt D173 3 rfl) rfl rfl ?_
  refine e_i2l (pc' := 7) (dAt D173 4 rfl) rfl ?_
  refine e_lconst (pc' := 8) (v := 0) (dAt D173 5 rfl) rfl (by decide) ?_
  refine e_ldc2_w (pc' := 11) (dAt D173 6 rfl) rfl rfl ?_
  exact e_call2 h (dAt D173 7 rfl) (hi2 rfl) rfl G151 (by decide) rfl (Nat.le_of_ble_eq_true rfl) rfl rfl rfl
-- PlaceNetsModel.run.(II)I, from 14
set_option maxRecDepth 20000 in
theorem bk173_14 {d b : Nat} {Q : Option Value → mMem → Prop} {m : mMem} {x0 : Nat} {x1 : Int32} {x2 : Int32} {x3 : Option Value} {x4 : Option Value} {x5 : Option Value} {x6 : Option Value} {y0 : Int32} (hT : mWT m) (hOx0 : m.1 x0 = some (.inr 8) ∧ x0 ≠ 0)
    (h : (((y0 = 0) → (Q (some (.int ((-1)))) m)) ∧ (¬ (y0 = 0) → (mEv d 151 [.long x2.toInt64, .long 1, .long 200] m (fun r m' => mEs d 173 b g173 (26, [some (.ref x0), some (.int x1), some (.int x2), x3, x4, x5, x6], r.toList ++ [], m') Q))))) :
    mEs d 173 b g173 (14, [some (.ref x0), some (.int x1), some (.int x2), x3, x4, x5, x6], [.int y0], m) Q := by
  refine e_if_eq (t := 29) (pc' := 17) (dAt D173 8 rfl) ⟨by decide, by decide⟩ rfl (fun c => ?_) (fun c => ?_)
  · replace h := h.1 c
    refine e_iconst (pc' := 30) (v := (-1)) (dAt D173 15 rfl) rfl (by decide) ?_
    exact e_ireturn (dAt D173 16 rfl) rfl ⟨rfl, fun e => by cases e⟩ h
  · replace h := h.2 c
    refine e_iload_n (pc' := 18) (dAt D173 9 rfl) rfl rfl ?_
    refine e_i2l (pc' := 19) (dAt D173 10 rfl) rfl ?_
    refine e_lconst (pc' := 20) (v := 1) (dAt D173 11 rfl) rfl (by decide) ?_
    refine e_ldc2_w (pc' := 23) (dAt D173 12 rfl) rfl rfl ?_
    exact e_call2 h (dAt D173 13 rfl) (hi2 rfl) rfl G151 (by decide) rfl (Nat.le_of_ble_eq_true rfl) rfl rfl rfl
-- PlaceNetsModel.run.(II)I, from 26
set_option maxRecDepth 20000 in
theorem bk173_26 {d b : Nat} {Q : Option Value → mMem → Prop} {m : mMem} {x0 : Nat} {x1 : Int32} {x2 : Int32} {x3 : Option Value} {x4 : Option Value} {x5 : Option Value} {x6 : Option Value} {y0 : Int32} (hT : mWT m) (hOx0 : m.1 x0 = some (.inr 8) ∧ x0 ≠ 0)
    (h : (((¬ y0 = 0) → (((¬ (iF m x0 18) = 0) → (mEv d 169 [.ref x0] m (fun r m' => mEs d 173 b g173 (45, [some (.ref x0), some (.int x1), some (.int x2), x3, x4, x5, x6], r.toList ++ [], m') Q))) ∧ (¬ (¬ (iF m x0 18) = 0) → (Q (some (.int ((-2)))) m)))) ∧ (¬ (¬ y0 = 0) → (Q (some (.int ((-1)))) m)))) :
    mEs d 173 b g173 (26, [some (.ref x0), some (.int x1), some (.int x2), x3, x4, x5, x6], [.int y0], m) Q := by
  refine e_if_ne (t := 31) (pc' := 29) (dAt D173 14 rfl) ⟨by decide, by decide⟩ rfl (fun c => ?_) (fun c => ?_)
  · replace h := h.1 c
    refine e_aload_n (pc' := 32) (dAt D173 17 rfl) rfl rfl ?_
    refine e_getfield (pc' := 35) (dAt D173 18 rfl) rfl rfl hOx0 (hT.int hOx0 18 (by decide)) ?_
    refine e_if_ne (t := 41) (pc' := 38) (dAt D173 19 rfl) ⟨by decide, by decide⟩ rfl (fun c => ?_) (fun c => ?_)
    · replace h := h.1 c
      refine e_aload_n (pc' := 42) (dAt D173 22 rfl) rfl rfl ?_
      exact e_call2 h (dAt D173 23 rfl) (hi0 rfl) rfl G169 (by decide) rfl (Nat.le_of_ble_eq_true rfl) (kV hOx0 rfl rfl) rfl rfl
    · replace h := h.2 c
      refine e_bipush (pc' := 40) (v := (-2)) (dAt D173 20 rfl) rfl (by decide) ?_
      exact e_ireturn (dAt D173 21 rfl) rfl ⟨rfl, fun e => by cases e⟩ h
  · replace h := h.2 c
    refine e_iconst (pc' := 30) (v := (-1)) (dAt D173 15 rfl) rfl (by decide) ?_
    exact e_ireturn (dAt D173 16 rfl) rfl ⟨rfl, fun e => by cases e⟩ h
-- PlaceNetsModel.run.(II)I, from 45
set_option maxRecDepth 20000 in
theorem bk173_45 {d b : Nat} {Q : Option Value → mMem → Prop} {m : mMem} {x0 : Nat} {x1 : Int32} {x2 : Int32} {x3 : Option Value} {x4 : Option Value} {x5 : Option Value} {x6 : Option Value} (hT : mWT m) (hOx0 : m.1 x0 = some (.inr 8) ∧ x0 ≠ 0)
    (h : ∀ (v_1 : Int64), v_1 = x1.toInt64 → mEv d 166 [.ref x0, .ref (64 * x0 + 4), .int 0] m (fun r m' => mEs d 173 b g173 (60, [some (.ref x0), some (.int x1), some (.int x2), some (.long v_1), none, some (.int 0), x6], r.toList ++ [], m') Q)) :
    mEs d 173 b g173 (45, [some (.ref x0), some (.int x1), some (.int x2), x3, x4, x5, x6], [], m) Q := by
  refine e_iload_n (pc' := 46) (dAt D173 24 rfl) rfl rfl ?_
  refine e_i2l (pc' := 47) (dAt D173 25 rfl) rfl ?_
  replace h := h _ rfl
  refine e_lstore_n (pc' := 48) (dAt D173 26 rfl) rfl (Nat.le_of_ble_eq_true rfl) rfl ?_
  refine e_iconst (pc' := 49) (v := 0) (dAt D173 27 rfl) rfl (by decide) ?_
  refine e_istore (pc' := 51) (dAt D173 28 rfl) rfl (Nat.le_of_ble_eq_true rfl) rfl ?_
  refine e_aload_n (pc' := 52) (dAt D173 29 rfl) rfl rfl ?_
  refine e_aload_n (pc' := 53) (dAt D173 30 rfl) rfl rfl ?_
  refine e_getfield (pc' := 56) (dAt D173 31 rfl) rfl rfl hOx0 (hT.own hOx0 3 rfl) ?_
  refine e_iconst (pc' := 57) (v := 0) (dAt D173 32 rfl) rfl (by decide) ?_
  exact e_call2 h (dAt D173 33 rfl) (hi0 rfl) rfl G166 (by decide) rfl (Nat.le_of_ble_eq_true rfl) (kV hOx0 rfl rfl) rfl rfl
-- PlaceNetsModel.run.(II)I, from 60
set_option maxRecDepth 20000 in
theorem bk173_60 {d b : Nat} {Q : Option Value → mMem → Prop} {m : mMem} {x0 : Nat} {x1 : Int32} {x2 : Int32} {x3 : Int64} {x5 : Int32} {x6 : Option Value} {y0 : Int32} (hT : mWT m) (hOx0 : m.1 x0 = some (.inr 8) ∧ x0 ≠ 0)
    (h : mEs d 173 b g173 (62, [some (.ref x0), some (.int x1), some (.int x2), some (.long x3), none, some (.int x5), some (.int y0)], [], m) Q) :
    mEs d 173 b g173 (60, [some (.ref x0), some (.int x1), some (.int x2), some (.long x3), none, some (.int x5), x6], [.int y0], m) Q := by
  refine e_istore (pc' := 62) (dAt D173 34 rfl) rfl (Nat.le_of_ble_eq_true rfl) rfl ?_
  exact h
-- PlaceNetsModel.run.(II)I, from 62
set_option maxRecDepth 20000 in
theorem bk173_62 {d b : Nat} {Q : Option Value → mMem → Prop} {m : mMem} {x0 : Nat} {x1 : Int32} {x2 : Int32} {x3 : Int64} {x5 : Int32} {x6 : Int32} (hT : mWT m) (hOx0 : m.1 x0 = some (.inr 8) ∧ x0 ≠ 0)
    (h : (((x2 ≤ x5) → (Q (some (.int x5)) m)) ∧ (¬ (x2 ≤ x5) → (((x6 = 0) → (Q (some (.int x5)) m)) ∧ (¬ (x6 = 0) → (∀ (v_1 : Int64), v_1 = (((x3 * 1103) + 12345) - ((x3 * 1103) + 12345) / 1000003 * 1000003) → mEv d 171 [.int x6] m (fun r m' => mEs d 173 b g173 (97, [some (.ref x0), some (.int x1), some (.int x2), some (.long v_1), none, some (.int x5), some (.int x6)], r.toList ++ [.long v_1, .int x6, .ref x0, .ref x0], m') Q))))))) :
    mEs d 173 b g173 (62, [some (.ref x0), some (.int x1), some (.int x2), some (.long x3), none, some (.int x5), some (.int x6)], [], m) Q := by
  refine e_iload (pc' := 64) (dAt D173 35 rfl) rfl rfl ?_
  refine e_iload_n (pc' := 65) (dAt D173 36 rfl) rfl rfl ?_
  refine e_icmp_ge (t := 123) (pc' := 68) (dAt D173 37 rfl) ⟨by decide, by decide⟩ rfl (fun c => ?_) (fun c => ?_)
  · replace h := h.1 c
    refine e_iload (pc' := 125) (dAt D173 67 rfl) rfl rfl ?_
    exact e_ireturn (dAt D173 68 rfl) rfl ⟨rfl, fun e => by cases e⟩ h
  · replace h := h.2 c
    refine e_iload (pc' := 70) (dAt D173 38 rfl) rfl rfl ?_
    refine e_if_eq (t := 123) (pc' := 73) (dAt D173 39 rfl) ⟨by decide, by decide⟩ rfl (fun c => ?_) (fun c => ?_)
    · replace h := h.1 c
      refine e_iload (pc' := 125) (dAt D173 67 rfl) rfl rfl ?_
      exact e_ireturn (dAt D173 68 rfl) rfl ⟨rfl, fun e => by cases e⟩ h
    · replace h := h.2 c
      refine e_lload_n (pc' := 74) (dAt D173 40 rfl) rfl rfl ?_
      refine e_ldc2_w (pc' := 77) (dAt D173 41 rfl) rfl rfl ?_
      refine e_lmul (pc' := 78) (dAt D173 42 rfl) rfl ?_
      refine e_ldc2_w (pc' := 81) (dAt D173 43 rfl) rfl rfl ?_
      refine e_ladd (pc' := 82) (dAt D173 44 rfl) rfl ?_
      refine e_ldc2_w (pc' := 85) (dAt D173 45 rfl) rfl rfl ?_
      refine e_lrem (pc' := 86) (dAt D173 46 rfl) rfl (by decide) ?_
      replace h := h _ rfl
      refine e_lstore_n (pc' := 87) (dAt D173 47 rfl) rfl (Nat.le_of_ble_eq_true rfl) rfl ?_
      refine e_aload_n (pc' := 88) (dAt D173 48 rfl) rfl rfl ?_
      refine e_aload_n (pc' := 89) (dAt D173 49 rfl) rfl rfl ?_
      refine e_iload (pc' := 91) (dAt D173 50 rfl) rfl rfl ?_
      refine e_lload_n (pc' := 92) (dAt D173 51 rfl) rfl rfl ?_
      refine e_iload (pc' := 94) (dAt D173 52 rfl) rfl rfl ?_
      exact e_call2 h (dAt D173 53 rfl) (hi2 rfl) rfl G171 (by decide) rfl (Nat.le_of_ble_eq_true rfl) rfl rfl rfl
-- PlaceNetsModel.run.(II)I, from 97
set_option maxRecDepth 20000 in
theorem bk173_97 {d b : Nat} {Q : Option Value → mMem → Prop} {m : mMem} {x0 : Nat} {x1 : Int32} {x2 : Int32} {x3 : Int64} {x5 : Int32} {x6 : Int32} {y0 : Nat} {y1 : Nat} {y2 : Int32} {y3 : Int64} {y4 : Int32} (hT : mWT m) (hOx0 : m.1 x0 = some (.inr 8) ∧ x0 ≠ 0) (hOy0 : m.1 y0 = some (.inr 8) ∧ y0 ≠ 0) (hOy1 : m.1 y1 = some (.inr 8) ∧ y1 ≠ 0)
    (h : (y4.toInt64 ≠ 0) ∧ (mEv d 174 [.ref y1, .int y2, .int ((y3 - y3 / y4.toInt64 * y4.toInt64).toInt32)] m (fun r m' => mEs d 173 b g173 (103, [some (.ref x0), some (.int x1), some (.int x2), some (.long x3), none, some (.int x5), some (.int x6)], r.toList ++ [.ref y0], m') Q))) :
    mEs d 173 b g173 (97, [some (.ref x0), some (.int x1), some (.int x2), some (.long x3), none, some (.int x5), some (.int x6)], [.int y4, .long y3, .int y2, .ref y1, .ref y0], m) Q := by
  refine e_i2l (pc' := 98) (dAt D173 54 rfl) rfl ?_
  obtain ⟨f1, h⟩ := h
  refine e_lrem (pc' := 99) (dAt D173 55 rfl) rfl f1 ?_
  refine e_l2i (pc' := 100) (dAt D173 56 rfl) rfl ?_
  exact e_call2 h (dAt D173 57 rfl) (hi0 rfl) rfl G174 (by decide) rfl (Nat.le_of_ble_eq_true rfl) (kV hOy1 rfl rfl) rfl rfl
-- PlaceNetsModel.run.(II)I, from 103
set_option maxRecDepth 20000 in
theorem bk173_103 {d b : Nat} {Q : Option Value → mMem → Prop} {m : mMem} {x0 : Nat} {x1 : Int32} {x2 : Int32} {x3 : Int64} {x5 : Int32} {x6 : Int32} {y0 : Nat} {y1 : Int32} (hT : mWT m) (hOx0 : m.1 x0 = some (.inr 8) ∧ x0 ≠ 0) (hOy0 : m.1 y0 = some (.inr 8) ∧ y0 ≠ 0)
    (h : mEv d 170 [.ref y0, .int y1] m (fun r m' => mEs d 173 b g173 (106, [some (.ref x0), some (.int x1), some (.int x2), some (.long x3), none, some (.int x5), some (.int x6)], r.toList ++ [], m') Q)) :
    mEs d 173 b g173 (103, [some (.ref x0), some (.int x1), some (.int x2), some (.long x3), none, some (.int x5), some (.int x6)], [.int y1, .ref y0], m) Q := by
  exact e_call2 h (dAt D173 58 rfl) (hi0 rfl) rfl G170 (by decide) rfl (Nat.le_of_ble_eq_true rfl) (kV hOy0 rfl rfl) rfl rfl
-- PlaceNetsModel.run.(II)I, from 106
set_option maxRecDepth 20000 in
theorem bk173_106 {d b : Nat} {Q : Option Value → mMem → Prop} {m : mMem} {x0 : Nat} {x1 : Int32} {x2 : Int32} {x3 : Int64} {x5 : Int32} {x6 : Int32} (hT : mWT m) (hOx0 : m.1 x0 = some (.inr 8) ∧ x0 ≠ 0)
    (h : ∀ (v_1 : Int32), v_1 = (x5 + 1) → mEv d 166 [.ref x0, .ref (64 * x0 + 4), .int 0] m (fun r m' => mEs d 173 b g173 (118, [some (.ref x0), some (.int x1), some (.int x2), some (.long x3), none, some (.int v_1), some (.int x6)], r.toList ++ [], m') Q)) :
    mEs d 173 b g173 (106, [some (.ref x0), some (.int x1), some (.int x2), some (.long x3), none, some (.int x5), some (.int x6)], [], m) Q := by
  replace h := h _ rfl
  refine e_iinc (pc' := 109) (dAt D173 59 rfl) rfl rfl (Nat.le_of_ble_eq_true rfl) (congrArg (_ + ·) (show Int32.ofInt (1) = (1 : Int32) by decide)) rfl ?_
  refine e_aload_n (pc' := 110) (dAt D173 60 rfl) rfl rfl ?_
  refine e_aload_n (pc' := 111) (dAt D173 61 rfl) rfl rfl ?_
  refine e_getfield (pc' := 114) (dAt D173 62 rfl) rfl rfl hOx0 (hT.own hOx0 3 rfl) ?_
  refine e_iconst (pc' := 115) (v := 0) (dAt D173 63 rfl) rfl (by decide) ?_
  exact e_call2 h (dAt D173 64 rfl) (hi0 rfl) rfl G166 (by decide) rfl (Nat.le_of_ble_eq_true rfl) (kV hOx0 rfl rfl) rfl rfl
-- PlaceNetsModel.run.(II)I, from 118
set_option maxRecDepth 20000 in
theorem bk173_118 {d b : Nat} {Q : Option Value → mMem → Prop} {m : mMem} {x0 : Nat} {x1 : Int32} {x2 : Int32} {x3 : Int64} {x5 : Int32} {x6 : Int32} {y0 : Int32} (hT : mWT m) (hOx0 : m.1 x0 = some (.inr 8) ∧ x0 ≠ 0)
    (h : mEs d 173 b g173 (62, [some (.ref x0), some (.int x1), some (.int x2), some (.long x3), none, some (.int x5), some (.int y0)], [], m) Q) :
    mEs d 173 b g173 (118, [some (.ref x0), some (.int x1), some (.int x2), some (.long x3), none, some (.int x5), some (.int x6)], [.int y0], m) Q := by
  refine e_istore (pc' := 120) (dAt D173 65 rfl) rfl (Nat.le_of_ble_eq_true rfl) rfl ?_
  refine e_goto (t := 62) (dAt D173 66 rfl) ⟨by decide, by decide⟩ ?_
  exact h
-- PlaceNetsModel.drawn.(II)I, from 0
set_option maxRecDepth 20000 in
theorem bk174_0 {d b : Nat} {Q : Option Value → mMem → Prop} {m : mMem} {x0 : Nat} {x1 : Int32} {x2 : Int32} {x3 : Option Value} {x4 : Option Value} (hT : mWT m) (hOx0 : m.1 x0 = some (.inr 8) ∧ x0 ≠ 0)
    (h : mEs d 174 b g174 (5, [some (.ref x0), some (.int x1), some (.int x2), some (.int x2), some (.int 0)], [], m) Q) :
    mEs d 174 b g174 (0, [some (.ref x0), some (.int x1), some (.int x2), x3, x4], [], m) Q := by
  refine e_iload_n (pc' := 1) (dAt D174 0 rfl) rfl rfl ?_
  refine e_istore_n (pc' := 2) (dAt D174 1 rfl) rfl (Nat.le_of_ble_eq_true rfl) rfl ?_
  refine e_iconst (pc' := 3) (v := 0) (dAt D174 2 rfl) rfl (by decide) ?_
  refine e_istore (pc' := 5) (dAt D174 3 rfl) rfl (Nat.le_of_ble_eq_true rfl) rfl ?_
  exact h
-- PlaceNetsModel.drawn.(II)I, from 5
set_option maxRecDepth 20000 in
theorem bk174_5 {d b : Nat} {Q : Option Value → mMem → Prop} {m : mMem} {x0 : Nat} {x1 : Int32} {x2 : Int32} {x3 : Int32} {x4 : Int32} (hT : mWT m) (hOx0 : m.1 x0 = some (.inr 8) ∧ x0 ≠ 0)
    (h : (((((x1 >>> (x4 &&& 31)) &&& 1) = 0) → (∀ (v_1 : Int32), v_1 = (x3 - ((x1 >>> (x4 &&& 31)) &&& 1)) → ∀ (v_2 : Int32), v_2 = (x4 + 1) → mEs d 174 b g174 (5, [some (.ref x0), some (.int x1), some (.int x2), some (.int v_1), some (.int v_2)], [], m) Q)) ∧ (¬ (((x1 >>> (x4 &&& 31)) &&& 1) = 0) → (((x3 ≤ 0) → (Q (some (.int x4)) m)) ∧ (¬ (x3 ≤ 0) → (∀ (v_3 : Int32), v_3 = (x3 - ((x1 >>> (x4 &&& 31)) &&& 1)) → ∀ (v_4 : Int32), v_4 = (x4 + 1) → mEs d 174 b g174 (5, [some (.ref x0), some (.int x1), some (.int x2), some (.int v_3), some (.int v_4)], [], m) Q)))))) :
    mEs d 174 b g174 (5, [some (.ref x0), some (.int x1), some (.int x2), some (.int x3), some (.int x4)], [], m) Q := by
  refine e_iload_n (pc' := 6) (dAt D174 4 rfl) rfl rfl ?_
  refine e_iload (pc' := 8) (dAt D174 5 rfl) rfl rfl ?_
  refine e_ishr (pc' := 9) (dAt D174 6 rfl) rfl ?_
  refine e_iconst (pc' := 10) (v := 1) (dAt D174 7 rfl) rfl (by decide) ?_
  refine e_iand (pc' := 11) (dAt D174 8 rfl) rfl ?_
  refine e_if_eq (t := 18) (pc' := 14) (dAt D174 9 rfl) ⟨by decide, by decide⟩ rfl (fun c => ?_) (fun c => ?_)
  · replace h := h.1 c
    refine e_iload_n (pc' := 19) (dAt D174 12 rfl) rfl rfl ?_
    refine e_iload_n (pc' := 20) (dAt D174 13 rfl) rfl rfl ?_
    refine e_iload (pc' := 22) (dAt D174 14 rfl) rfl rfl ?_
    refine e_ishr (pc' := 23) (dAt D174 15 rfl) rfl ?_
    refine e_iconst (pc' := 24) (v := 1) (dAt D174 16 rfl) rfl (by decide) ?_
    refine e_iand (pc' := 25) (dAt D174 17 rfl) rfl ?_
    refine e_isub (pc' := 26) (dAt D174 18 rfl) rfl ?_
    replace h := h _ rfl
    refine e_istore_n (pc' := 27) (dAt D174 19 rfl) rfl (Nat.le_of_ble_eq_true rfl) rfl ?_
    replace h := h _ rfl
    refine e_iinc (pc' := 30) (dAt D174 20 rfl) rfl rfl (Nat.le_of_ble_eq_true rfl) (congrArg (_ + ·) (show Int32.ofInt (1) = (1 : Int32) by decide)) rfl ?_
    refine e_goto (t := 5) (dAt D174 21 rfl) ⟨by decide, by decide⟩ ?_
    exact h
  · replace h := h.2 c
    refine e_iload_n (pc' := 15) (dAt D174 10 rfl) rfl rfl ?_
    refine e_if_le (t := 33) (pc' := 18) (dAt D174 11 rfl) ⟨by decide, by decide⟩ rfl (fun c => ?_) (fun c => ?_)
    · replace h := h.1 c
      refine e_iload (pc' := 35) (dAt D174 22 rfl) rfl rfl ?_
      exact e_ireturn (dAt D174 23 rfl) rfl ⟨rfl, fun e => by cases e⟩ h
    · replace h := h.2 c
      refine e_iload_n (pc' := 19) (dAt D174 12 rfl) rfl rfl ?_
      refine e_iload_n (pc' := 20) (dAt D174 13 rfl) rfl rfl ?_
      refine e_iload (pc' := 22) (dAt D174 14 rfl) rfl rfl ?_
      refine e_ishr (pc' := 23) (dAt D174 15 rfl) rfl ?_
      refine e_iconst (pc' := 24) (v := 1) (dAt D174 16 rfl) rfl (by decide) ?_
      refine e_iand (pc' := 25) (dAt D174 17 rfl) rfl ?_
      refine e_isub (pc' := 26) (dAt D174 18 rfl) rfl ?_
      replace h := h _ rfl
      refine e_istore_n (pc' := 27) (dAt D174 19 rfl) rfl (Nat.le_of_ble_eq_true rfl) rfl ?_
      replace h := h _ rfl
      refine e_iinc (pc' := 30) (dAt D174 20 rfl) rfl rfl (Nat.le_of_ble_eq_true rfl) (congrArg (_ + ·) (show Int32.ofInt (1) = (1 : Int32) by decide)) rfl ?_
      refine e_goto (t := 5) (dAt D174 21 rfl) ⟨by decide, by decide⟩ ?_
      exact h
-- PlaceNetsModel.home.()I, from 0
set_option maxRecDepth 20000 in
theorem bk175_0 {d b : Nat} {Q : Option Value → mMem → Prop} {m : mMem} {x0 : Nat} {x1 : Option Value} (hT : mWT m) (hOx0 : m.1 x0 = some (.inr 8) ∧ x0 ≠ 0)
    (h : ∀ (m_1 : mMem), m_1 = (mSetF m x0 0 (.int 0)) → (((¬ (iF m_1 x0 18) = 0) → (mEv d 169 [.ref x0] m_1 (fun r m' => mEs d 175 b g175 (19, [some (.ref x0), x1], r.toList ++ [], m') Q))) ∧ (¬ (¬ (iF m_1 x0 18) = 0) → (Q (some (.int ((-2)))) m_1)))) :
    mEs d 175 b g175 (0, [some (.ref x0), x1], [], m) Q := by
  refine e_aload_n (pc' := 1) (dAt D175 0 rfl) rfl rfl ?_
  refine e_iconst (pc' := 2) (v := 0) (dAt D175 1 rfl) rfl (by decide) ?_
  replace h := h _ rfl
  refine e_putfield (pc' := 5) (dAt D175 2 rfl) rfl rfl hOx0 rfl rfl (fun e => by cases e) ?_
  refine wtF hT hOx0 (by decide) (fun hT_2 => ?_)
  refine e_aload_n (pc' := 6) (dAt D175 3 rfl) rfl rfl ?_
  refine e_getfield (pc' := 9) (dAt D175 4 rfl) rfl rfl hOx0 (hT_2.int hOx0 18 (by decide)) ?_
  refine e_if_ne (t := 15) (pc' := 12) (dAt D175 5 rfl) ⟨by decide, by decide⟩ rfl (fun c => ?_) (fun c => ?_)
  · replace h := h.1 c
    refine e_aload_n (pc' := 16) (dAt D175 8 rfl) rfl rfl ?_
    exact e_call2 h (dAt D175 9 rfl) (hi0 rfl) rfl G169 (by decide) rfl (Nat.le_of_ble_eq_true rfl) (kV hOx0 rfl rfl) rfl rfl
  · replace h := h.2 c
    refine e_bipush (pc' := 14) (v := (-2)) (dAt D175 6 rfl) rfl (by decide) ?_
    exact e_ireturn (dAt D175 7 rfl) rfl ⟨rfl, fun e => by cases e⟩ h
-- PlaceNetsModel.home.()I, from 19
set_option maxRecDepth 20000 in
theorem bk175_19 {d b : Nat} {Q : Option Value → mMem → Prop} {m : mMem} {x0 : Nat} {x1 : Option Value} (hT : mWT m) (hOx0 : m.1 x0 = some (.inr 8) ∧ x0 ≠ 0)
    (h : mEs d 175 b g175 (21, [some (.ref x0), some (.int 0)], [], m) Q) :
    mEs d 175 b g175 (19, [some (.ref x0), x1], [], m) Q := by
  refine e_iconst (pc' := 20) (v := 0) (dAt D175 10 rfl) rfl (by decide) ?_
  refine e_istore_n (pc' := 21) (dAt D175 11 rfl) rfl (Nat.le_of_ble_eq_true rfl) rfl ?_
  exact h
-- PlaceNetsModel.home.()I, from 21
set_option maxRecDepth 20000 in
theorem bk175_21 {d b : Nat} {Q : Option Value → mMem → Prop} {m : mMem} {x0 : Nat} {x1 : Int32} (hT : mWT m) (hOx0 : m.1 x0 = some (.inr 8) ∧ x0 ≠ 0)
    (h : (((10 ≤ x1) → (mEv d 176 [.ref x0] m (fun r m' => mEs d 175 b g175 (49, [some (.ref x0), some (.int x1)], r.toList ++ [], m') Q))) ∧ (¬ (10 ≤ x1) → ((mIn x1 10 = true) ∧ ((mIn x1 10 = true) ∧ (∀ (m_1 : mMem), m_1 = (mSetI m (64 * x0 + 4) (upd (m.2.2.1 (64 * x0 + 4)) x1.toNatClampNeg (m.2.2.1 (64 * x0 + 5) x1.toNatClampNeg))) → ∀ (v_3 : Int32), v_3 = (x1 + 1) → mEs d 175 b g175 (21, [some (.ref x0), some (.int v_3)], [], m_1) Q)))))) :
    mEs d 175 b g175 (21, [some (.ref x0), some (.int x1)], [], m) Q := by
  refine e_iload_n (pc' := 22) (dAt D175 12 rfl) rfl rfl ?_
  refine e_bipush (pc' := 24) (v := 10) (dAt D175 13 rfl) rfl (by decide) ?_
  refine e_icmp_ge (t := 45) (pc' := 27) (dAt D175 14 rfl) ⟨by decide, by decide⟩ rfl (fun c => ?_) (fun c => ?_)
  · replace h := h.1 c
    refine e_aload_n (pc' := 46) (dAt D175 25 rfl) rfl rfl ?_
    exact e_call2 h (dAt D175 26 rfl) (hi0 rfl) rfl G176 (by decide) rfl (Nat.le_of_ble_eq_true rfl) (kV hOx0 rfl rfl) rfl rfl
  · replace h := h.2 c
    refine e_aload_n (pc' := 28) (dAt D175 15 rfl) rfl rfl ?_
    refine e_getfield (pc' := 31) (dAt D175 16 rfl) rfl rfl hOx0 (hT.own hOx0 3 rfl) ?_
    refine e_iload_n (pc' := 32) (dAt D175 17 rfl) rfl rfl ?_
    refine e_aload_n (pc' := 33) (dAt D175 18 rfl) rfl rfl ?_
    refine e_getfield (pc' := 36) (dAt D175 19 rfl) rfl rfl hOx0 (hT.own hOx0 4 rfl) ?_
    refine e_iload_n (pc' := 37) (dAt D175 20 rfl) rfl rfl ?_
    obtain ⟨f1, h⟩ := h
    refine e_iaload (pc' := 38) (dAt D175 21 rfl) rfl (hT.arr hOx0 4 rfl (by decide)).1 (Or.inl (hT.arr hOx0 4 rfl (by decide)).2) f1 rfl ?_
    obtain ⟨f1, h⟩ := h
    replace h := h _ rfl
    refine e_iastore (pc' := 39) (dAt D175 22 rfl) rfl (hT.arr hOx0 3 rfl (by decide)).1 (hT.arr hOx0 3 rfl (by decide)).2 f1 (nar_i _) ?_
    refine wtI hT (fun hT_2 => ?_)
    replace h := h _ rfl
    refine e_iinc (pc' := 42) (dAt D175 23 rfl) rfl rfl (Nat.le_of_ble_eq_true rfl) (congrArg (_ + ·) (show Int32.ofInt (1) = (1 : Int32) by decide)) rfl ?_
    refine e_goto (t := 21) (dAt D175 24 rfl) ⟨by decide, by decide⟩ ?_
    exact h
-- PlaceNetsModel.home.()I, from 49
set_option maxRecDepth 20000 in
theorem bk175_49 {d b : Nat} {Q : Option Value → mMem → Prop} {m : mMem} {x0 : Nat} {x1 : Int32} {y0 : Int32} (hT : mWT m) (hOx0 : m.1 x0 = some (.inr 8) ∧ x0 ≠ 0)
    (h : Q (some (.int y0)) m) :
    mEs d 175 b g175 (49, [some (.ref x0), some (.int x1)], [.int y0], m) Q := by
  exact e_ireturn (dAt D175 27 rfl) rfl ⟨rfl, fun e => by cases e⟩ h
-- PlaceNetsModel.allTokens.()I, from 0
set_option maxRecDepth 20000 in
theorem bk176_0 {d b : Nat} {Q : Option Value → mMem → Prop} {m : mMem} {x0 : Nat} {x1 : Option Value} {x2 : Option Value} (hT : mWT m) (hOx0 : m.1 x0 = some (.inr 8) ∧ x0 ≠ 0)
    (h : mEs d 176 b g176 (4, [some (.ref x0), some (.int 0), some (.int 0)], [], m) Q) :
    mEs d 176 b g176 (0, [some (.ref x0), x1, x2], [], m) Q := by
  refine e_iconst (pc' := 1) (v := 0) (dAt D176 0 rfl) rfl (by decide) ?_
  refine e_istore_n (pc' := 2) (dAt D176 1 rfl) rfl (Nat.le_of_ble_eq_true rfl) rfl ?_
  refine e_iconst (pc' := 3) (v := 0) (dAt D176 2 rfl) rfl (by decide) ?_
  refine e_istore_n (pc' := 4) (dAt D176 3 rfl) rfl (Nat.le_of_ble_eq_true rfl) rfl ?_
  exact h
-- PlaceNetsModel.allTokens.()I, from 4
set_option maxRecDepth 20000 in
theorem bk176_4 {d b : Nat} {Q : Option Value → mMem → Prop} {m : mMem} {x0 : Nat} {x1 : Int32} {x2 : Int32} (hT : mWT m) (hOx0 : m.1 x0 = some (.inr 8) ∧ x0 ≠ 0)
    (h : ((((iF m x0 6) ≤ x2) → (Q (some (.int x1)) m)) ∧ (¬ ((iF m x0 6) ≤ x2) → ((mIn x2 10 = true) ∧ (∀ (v_1 : Int32), v_1 = (x1 + (m.2.2.1 (64 * x0 + 4) x2.toNatClampNeg)) → ∀ (v_2 : Int32), v_2 = (x2 + 1) → mEs d 176 b g176 (4, [some (.ref x0), some (.int v_1), some (.int v_2)], [], m) Q))))) :
    mEs d 176 b g176 (4, [some (.ref x0), some (.int x1), some (.int x2)], [], m) Q := by
  refine e_iload_n (pc' := 5) (dAt D176 4 rfl) rfl rfl ?_
  refine e_aload_n (pc' := 6) (dAt D176 5 rfl) rfl rfl ?_
  refine e_getfield (pc' := 9) (dAt D176 6 rfl) rfl rfl hOx0 (hT.int hOx0 6 (by decide)) ?_
  refine e_icmp_ge (t := 27) (pc' := 12) (dAt D176 7 rfl) ⟨by decide, by decide⟩ rfl (fun c => ?_) (fun c => ?_)
  · replace h := h.1 c
    refine e_iload_n (pc' := 28) (dAt D176 17 rfl) rfl rfl ?_
    exact e_ireturn (dAt D176 18 rfl) rfl ⟨rfl, fun e => by cases e⟩ h
  · replace h := h.2 c
    refine e_iload_n (pc' := 13) (dAt D176 8 rfl) rfl rfl ?_
    refine e_aload_n (pc' := 14) (dAt D176 9 rfl) rfl rfl ?_
    refine e_getfield (pc' := 17) (dAt D176 10 rfl) rfl rfl hOx0 (hT.own hOx0 3 rfl) ?_
    refine e_iload_n (pc' := 18) (dAt D176 11 rfl) rfl rfl ?_
    obtain ⟨f1, h⟩ := h
    refine e_iaload (pc' := 19) (dAt D176 12 rfl) rfl (hT.arr hOx0 3 rfl (by decide)).1 (Or.inl (hT.arr hOx0 3 rfl (by decide)).2) f1 rfl ?_
    refine e_iadd (pc' := 20) (dAt D176 13 rfl) rfl ?_
    replace h := h _ rfl
    refine e_istore_n (pc' := 21) (dAt D176 14 rfl) rfl (Nat.le_of_ble_eq_true rfl) rfl ?_
    replace h := h _ rfl
    refine e_iinc (pc' := 24) (dAt D176 15 rfl) rfl rfl (Nat.le_of_ble_eq_true rfl) (congrArg (_ + ·) (show Int32.ofInt (1) = (1 : Int32) by decide)) rfl ?_
    refine e_goto (t := 4) (dAt D176 16 rfl) ⟨by decide, by decide⟩ ?_
    exact h
-- PlaceNetsModel.undo.()I, from 0
set_option maxRecDepth 20000 in
theorem bk177_0 {d b : Nat} {Q : Option Value → mMem → Prop} {m : mMem} {x0 : Nat} {x1 : Option Value} (hT : mWT m) (hOx0 : m.1 x0 = some (.inr 8) ∧ x0 ≠ 0)
    (h : ∀ (m_1 : mMem), m_1 = (mSetF m x0 0 (.int 0)) → (((¬ (iF m_1 x0 18) = 0) → (((¬ (iF m_1 x0 20) = 0) → (∀ (m_3 : mMem), m_3 = (mSetF m_1 x0 20 (.int ((iF m_1 x0 20) - 1))) → mEs d 177 b g177 (37, [some (.ref x0), some (.int 0)], [], m_3) Q)) ∧ (¬ (¬ (iF m_1 x0 20) = 0) → (Q (some (.int ((-3)))) m_1)))) ∧ (¬ (¬ (iF m_1 x0 18) = 0) → (Q (some (.int ((-2)))) m_1)))) :
    mEs d 177 b g177 (0, [some (.ref x0), x1], [], m) Q := by
  refine e_aload_n (pc' := 1) (dAt D177 0 rfl) rfl rfl ?_
  refine e_iconst (pc' := 2) (v := 0) (dAt D177 1 rfl) rfl (by decide) ?_
  replace h := h _ rfl
  refine e_putfield (pc' := 5) (dAt D177 2 rfl) rfl rfl hOx0 rfl rfl (fun e => by cases e) ?_
  refine wtF hT hOx0 (by decide) (fun hT_2 => ?_)
  refine e_aload_n (pc' := 6) (dAt D177 3 rfl) rfl rfl ?_
  refine e_getfield (pc' := 9) (dAt D177 4 rfl) rfl rfl hOx0 (hT_2.int hOx0 18 (by decide)) ?_
  refine e_if_ne (t := 15) (pc' := 12) (dAt D177 5 rfl) ⟨by decide, by decide⟩ rfl (fun c => ?_) (fun c => ?_)
  · replace h := h.1 c
    refine e_aload_n (pc' := 16) (dAt D177 8 rfl) rfl rfl ?_
    refine e_getfield (pc' := 19) (dAt D177 9 rfl) rfl rfl hOx0 (hT_2.int hOx0 20 (by decide)) ?_
    refine e_if_ne (t := 25) (pc' := 22) (dAt D177 10 rfl) ⟨by decide, by decide⟩ rfl (fun c => ?_) (fun c => ?_)
    · replace h := h.1 c
      refine e_aload_n (pc' := 26) (dAt D177 13 rfl) rfl rfl ?_
      refine e_dup (pc' := 27) (dAt D177 14 rfl) rfl rfl ?_
      refine e_getfield (pc' := 30) (dAt D177 15 rfl) rfl rfl hOx0 (hT_2.int hOx0 20 (by decide)) ?_
      refine e_iconst (pc' := 31) (v := 1) (dAt D177 16 rfl) rfl (by decide) ?_
      refine e_isub (pc' := 32) (dAt D177 17 rfl) rfl ?_
      replace h := h _ rfl
      refine e_putfield (pc' := 35) (dAt D177 18 rfl) rfl rfl hOx0 rfl rfl (fun e => by cases e) ?_
      refine wtF hT_2 hOx0 (by decide) (fun hT_4 => ?_)
      refine e_iconst (pc' := 36) (v := 0) (dAt D177 19 rfl) rfl (by decide) ?_
      refine e_istore_n (pc' := 37) (dAt D177 20 rfl) rfl (Nat.le_of_ble_eq_true rfl) rfl ?_
      exact h
    · replace h := h.2 c
      refine e_bipush (pc' := 24) (v := (-3)) (dAt D177 11 rfl) rfl (by decide) ?_
      exact e_ireturn (dAt D177 12 rfl) rfl ⟨rfl, fun e => by cases e⟩ h
  · replace h := h.2 c
    refine e_bipush (pc' := 14) (v := (-2)) (dAt D177 6 rfl) rfl (by decide) ?_
    exact e_ireturn (dAt D177 7 rfl) rfl ⟨rfl, fun e => by cases e⟩ h
-- PlaceNetsModel.undo.()I, from 37
set_option maxRecDepth 20000 in
theorem bk177_37 {d b : Nat} {Q : Option Value → mMem → Prop} {m : mMem} {x0 : Nat} {x1 : Int32} (hT : mWT m) (hOx0 : m.1 x0 = some (.inr 8) ∧ x0 ≠ 0)
    (h : (((10 ≤ x1) → (mEv d 158 [.ref x0] m (fun r m' => mEs d 177 b g177 (73, [some (.ref x0), some (.int x1)], r.toList ++ [], m') Q))) ∧ (¬ (10 ≤ x1) → ((mIn ((10 * (iF m x0 20)) + x1) 100 = true) ∧ ((mIn x1 10 = true) ∧ (∀ (m_1 : mMem), m_1 = (mSetI m (64 * x0 + 4) (upd (m.2.2.1 (64 * x0 + 4)) x1.toNatClampNeg (m.2.2.1 (64 * x0 + 10) ((10 * (iF m x0 20)) + x1).toNatClampNeg))) → ∀ (v_3 : Int32), v_3 = (x1 + 1) → mEs d 177 b g177 (37, [some (.ref x0), some (.int v_3)], [], m_1) Q)))))) :
    mEs d 177 b g177 (37, [some (.ref x0), some (.int x1)], [], m) Q := by
  refine e_iload_n (pc' := 38) (dAt D177 21 rfl) rfl rfl ?_
  refine e_bipush (pc' := 40) (v := 10) (dAt D177 22 rfl) rfl (by decide) ?_
  refine e_icmp_ge (t := 69) (pc' := 43) (dAt D177 23 rfl) ⟨by decide, by decide⟩ rfl (fun c => ?_) (fun c => ?_)
  · replace h := h.1 c
    refine e_aload_n (pc' := 70) (dAt D177 39 rfl) rfl rfl ?_
    exact e_call2 h (dAt D177 40 rfl) (hi0 rfl) rfl G158 (by decide) rfl (Nat.le_of_ble_eq_true rfl) (kV hOx0 rfl rfl) rfl rfl
  · replace h := h.2 c
    refine e_aload_n (pc' := 44) (dAt D177 24 rfl) rfl rfl ?_
    refine e_getfield (pc' := 47) (dAt D177 25 rfl) rfl rfl hOx0 (hT.own hOx0 3 rfl) ?_
    refine e_iload_n (pc' := 48) (dAt D177 26 rfl) rfl rfl ?_
    refine e_aload_n (pc' := 49) (dAt D177 27 rfl) rfl rfl ?_
    refine e_getfield (pc' := 52) (dAt D177 28 rfl) rfl rfl hOx0 (hT.own hOx0 9 rfl) ?_
    refine e_bipush (pc' := 54) (v := 10) (dAt D177 29 rfl) rfl (by decide) ?_
    refine e_aload_n (pc' := 55) (dAt D177 30 rfl) rfl rfl ?_
    refine e_getfield (pc' := 58) (dAt D177 31 rfl) rfl rfl hOx0 (hT.int hOx0 20 (by decide)) ?_
    refine e_imul (pc' := 59) (dAt D177 32 rfl) rfl ?_
    refine e_iload_n (pc' := 60) (dAt D177 33 rfl) rfl rfl ?_
    refine e_iadd (pc' := 61) (dAt D177 34 rfl) rfl ?_
    obtain ⟨f1, h⟩ := h
    refine e_iaload (pc' := 62) (dAt D177 35 rfl) rfl (hT.arr hOx0 9 rfl (by decide)).1 (Or.inl (hT.arr hOx0 9 rfl (by decide)).2) f1 rfl ?_
    obtain ⟨f1, h⟩ := h
    replace h := h _ rfl
    refine e_iastore (pc' := 63) (dAt D177 36 rfl) rfl (hT.arr hOx0 3 rfl (by decide)).1 (hT.arr hOx0 3 rfl (by decide)).2 f1 (nar_i _) ?_
    refine wtI hT (fun hT_2 => ?_)
    replace h := h _ rfl
    refine e_iinc (pc' := 66) (dAt D177 37 rfl) rfl rfl (Nat.le_of_ble_eq_true rfl) (congrArg (_ + ·) (show Int32.ofInt (1) = (1 : Int32) by decide)) rfl ?_
    refine e_goto (t := 37) (dAt D177 38 rfl) ⟨by decide, by decide⟩ ?_
    exact h
-- PlaceNetsModel.undo.()I, from 73
set_option maxRecDepth 20000 in
theorem bk177_73 {d b : Nat} {Q : Option Value → mMem → Prop} {m : mMem} {x0 : Nat} {x1 : Int32} (hT : mWT m) (hOx0 : m.1 x0 = some (.inr 8) ∧ x0 ≠ 0)
    (h : Q (some (.int (iF m x0 20))) m) :
    mEs d 177 b g177 (73, [some (.ref x0), some (.int x1)], [], m) Q := by
  refine e_aload_n (pc' := 74) (dAt D177 41 rfl) rfl rfl ?_
  refine e_getfield (pc' := 77) (dAt D177 42 rfl) rfl rfl hOx0 (hT.int hOx0 20 (by decide)) ?_
  exact e_ireturn (dAt D177 43 rfl) rfl ⟨rfl, fun e => by cases e⟩ h
-- PlaceNetsModel.goal.(II)I, from 0
set_option maxRecDepth 20000 in
theorem bk178_0 {d b : Nat} {Q : Option Value → mMem → Prop} {m : mMem} {x0 : Nat} {x1 : Int32} {x2 : Int32} {x3 : Option Value} (hT : mWT m) (hOx0 : m.1 x0 = some (.inr 8) ∧ x0 ≠ 0)
    (h : ∀ (m_1 : mMem), m_1 = (mSetF m x0 0 (.int 0)) → mEv d 151 [.long x2.toInt64, .long 0, .long 99] m_1 (fun r m' => mEs d 178 b g178 (14, [some (.ref x0), some (.int x1), some (.int x2), x3], r.toList ++ [], m') Q)) :
    mEs d 178 b g178 (0, [some (.ref x0), some (.int x1), some (.int x2), x3], [], m) Q := by
  refine e_aload_n (pc' := 1) (dAt D178 0 rfl) rfl rfl ?_
  refine e_iconst (pc' := 2) (v := 0) (dAt D178 1 rfl) rfl (by decide) ?_
  replace h := h _ rfl
  refine e_putfield (pc' := 5) (dAt D178 2 rfl) rfl rfl hOx0 rfl rfl (fun e => by cases e) ?_
  refine wtF hT hOx0 (by decide) (fun hT_2 => ?_)
  refine e_iload_n (pc' := 6) (dAt D178 3 rfl) rfl rfl ?_
  refine e_i2l (pc' := 7) (dAt D178 4 rfl) rfl ?_
  refine e_lconst (pc' := 8) (v := 0) (dAt D178 5 rfl) rfl (by decide) ?_
  refine e_ldc2_w (pc' := 11) (dAt D178 6 rfl) rfl rfl ?_
  exact e_call2 h (dAt D178 7 rfl) (hi2 rfl) rfl G151 (by decide) rfl (Nat.le_of_ble_eq_true rfl) rfl rfl rfl
-- PlaceNetsModel.goal.(II)I, from 14
set_option maxRecDepth 20000 in
theorem bk178_14 {d b : Nat} {Q : Option Value → mMem → Prop} {m : mMem} {x0 : Nat} {x1 : Int32} {x2 : Int32} {x3 : Option Value} {y0 : Int32} (hT : mWT m) (hOx0 : m.1 x0 = some (.inr 8) ∧ x0 ≠ 0)
    (h : (((¬ y0 = 0) → (mEv d 161 [.ref x0, .int x1] m (fun r m' => mEs d 178 b g178 (24, [some (.ref x0), some (.int x1), some (.int x2), x3], r.toList ++ [], m') Q))) ∧ (¬ (¬ y0 = 0) → (Q (some (.int ((-1)))) m)))) :
    mEs d 178 b g178 (14, [some (.ref x0), some (.int x1), some (.int x2), x3], [.int y0], m) Q := by
  refine e_if_ne (t := 19) (pc' := 17) (dAt D178 8 rfl) ⟨by decide, by decide⟩ rfl (fun c => ?_) (fun c => ?_)
  · replace h := h.1 c
    refine e_aload_n (pc' := 20) (dAt D178 11 rfl) rfl rfl ?_
    refine e_iload_n (pc' := 21) (dAt D178 12 rfl) rfl rfl ?_
    exact e_call2 h (dAt D178 13 rfl) (hi0 rfl) rfl G161 (by decide) rfl (Nat.le_of_ble_eq_true rfl) (kV hOx0 rfl rfl) rfl rfl
  · replace h := h.2 c
    refine e_iconst (pc' := 18) (v := (-1)) (dAt D178 9 rfl) rfl (by decide) ?_
    exact e_ireturn (dAt D178 10 rfl) rfl ⟨rfl, fun e => by cases e⟩ h
-- PlaceNetsModel.goal.(II)I, from 24
set_option maxRecDepth 20000 in
theorem bk178_24 {d b : Nat} {Q : Option Value → mMem → Prop} {m : mMem} {x0 : Nat} {x1 : Int32} {x2 : Int32} {x3 : Option Value} {y0 : Int32} (hT : mWT m) (hOx0 : m.1 x0 = some (.inr 8) ∧ x0 ≠ 0)
    (h : (((¬ y0 = 0) → ((mIn x1 10 = true) ∧ (∀ (v_1 : Int32), v_1 = (m.2.2.1 (64 * x0 + 6) x1.toNatClampNeg) → (mIn x1 10 = true) ∧ (∀ (m_2 : mMem), m_2 = (mSetI m (64 * x0 + 6) (upd (m.2.2.1 (64 * x0 + 6)) x1.toNatClampNeg x2)) → Q (some (.int v_1)) m_2)))) ∧ (¬ (¬ y0 = 0) → (Q (some (.int ((-2)))) m)))) :
    mEs d 178 b g178 (24, [some (.ref x0), some (.int x1), some (.int x2), x3], [.int y0], m) Q := by
  refine e_if_ne (t := 30) (pc' := 27) (dAt D178 14 rfl) ⟨by decide, by decide⟩ rfl (fun c => ?_) (fun c => ?_)
  · replace h := h.1 c
    refine e_aload_n (pc' := 31) (dAt D178 17 rfl) rfl rfl ?_
    refine e_getfield (pc' := 34) (dAt D178 18 rfl) rfl rfl hOx0 (hT.own hOx0 5 rfl) ?_
    refine e_iload_n (pc' := 35) (dAt D178 19 rfl) rfl rfl ?_
    obtain ⟨f1, h⟩ := h
    refine e_iaload (pc' := 36) (dAt D178 20 rfl) rfl (hT.arr hOx0 5 rfl (by decide)).1 (Or.inl (hT.arr hOx0 5 rfl (by decide)).2) f1 rfl ?_
    replace h := h _ rfl
    refine e_istore_n (pc' := 37) (dAt D178 21 rfl) rfl (Nat.le_of_ble_eq_true rfl) rfl ?_
    refine e_aload_n (pc' := 38) (dAt D178 22 rfl) rfl rfl ?_
    refine e_getfield (pc' := 41) (dAt D178 23 rfl) rfl rfl hOx0 (hT.own hOx0 5 rfl) ?_
    refine e_iload_n (pc' := 42) (dAt D178 24 rfl) rfl rfl ?_
    refine e_iload_n (pc' := 43) (dAt D178 25 rfl) rfl rfl ?_
    obtain ⟨f1, h⟩ := h
    replace h := h _ rfl
    refine e_iastore (pc' := 44) (dAt D178 26 rfl) rfl (hT.arr hOx0 5 rfl (by decide)).1 (hT.arr hOx0 5 rfl (by decide)).2 f1 (nar_i _) ?_
    refine wtI hT (fun hT_3 => ?_)
    refine e_iload_n (pc' := 45) (dAt D178 27 rfl) rfl rfl ?_
    exact e_ireturn (dAt D178 28 rfl) rfl ⟨rfl, fun e => by cases e⟩ h
  · replace h := h.2 c
    refine e_bipush (pc' := 29) (v := (-2)) (dAt D178 15 rfl) rfl (by decide) ?_
    exact e_ireturn (dAt D178 16 rfl) rfl ⟨rfl, fun e => by cases e⟩ h
-- PlaceNetsModel.node.(II)I, from 0
set_option maxRecDepth 20000 in
theorem bk179_0 {d b : Nat} {Q : Option Value → mMem → Prop} {m : mMem} {x0 : Nat} {x1 : Int32} {x2 : Int32} {x3 : Option Value} (hT : mWT m) (hOx0 : m.1 x0 = some (.inr 8) ∧ x0 ≠ 0)
    (h : ∀ (m_1 : mMem), m_1 = (mSetF m x0 0 (.int 0)) → (((¬ x1 = ((-1))) → (((x1 < 0) → ((((iF m_1 x0 18) = 0) → (Q (some (.int ((-1)))) m_1)) ∧ (¬ ((iF m_1 x0 18) = 0) → (Q (some (.int ((-1)))) m_1)))) ∧ (¬ (x1 < 0) → (mEv d 161 [.ref x0, .int x2] m_1 (fun r m' => mEs d 179 b g179 (31, [some (.ref x0), some (.int x1), some (.int x2), x3], r.toList ++ [], m') Q))))) ∧ (¬ (¬ x1 = ((-1))) → (((¬ x2 = 0) → ((((iF m_1 x0 18) = 0) → (Q (some (.int ((-1)))) m_1)) ∧ (¬ ((iF m_1 x0 18) = 0) → (Q (some (.int ((-1)))) m_1)))) ∧ (¬ (¬ x2 = 0) → ((((iF m_1 x0 18) = 0) → (Q (some (.int ((-1)))) m_1)) ∧ (¬ ((iF m_1 x0 18) = 0) → (mEv d 180 [.ref x0] m_1 (fun r m' => mEs d 179 b g179 (71, [some (.ref x0), some (.int x1), some (.int x2), some (.int 1)], r.toList ++ [], m') Q))))))))) :
    mEs d 179 b g179 (0, [some (.ref x0), some (.int x1), some (.int x2), x3], [], m) Q := by
  refine e_aload_n (pc' := 1) (dAt D179 0 rfl) rfl rfl ?_
  refine e_iconst (pc' := 2) (v := 0) (dAt D179 1 rfl) rfl (by decide) ?_
  replace h := h _ rfl
  refine e_putfield (pc' := 5) (dAt D179 2 rfl) rfl rfl hOx0 rfl rfl (fun e => by cases e) ?_
  refine wtF hT hOx0 (by decide) (fun hT_2 => ?_)
  refine e_iload_n (pc' := 6) (dAt D179 3 rfl) rfl rfl ?_
  refine e_iconst (pc' := 7) (v := (-1)) (dAt D179 4 rfl) rfl (by decide) ?_
  refine e_icmp_ne (t := 22) (pc' := 10) (dAt D179 5 rfl) ⟨by decide, by decide⟩ rfl (fun c => ?_) (fun c => ?_)
  · replace h := h.1 c
    refine e_iload_n (pc' := 23) (dAt D179 12 rfl) rfl rfl ?_
    refine e_if_lt (t := 52) (pc' := 26) (dAt D179 13 rfl) ⟨by decide, by decide⟩ rfl (fun c => ?_) (fun c => ?_)
    · replace h := h.1 c
      refine e_iconst (pc' := 53) (v := 0) (dAt D179 26 rfl) rfl (by decide) ?_
      refine e_istore_n (pc' := 54) (dAt D179 27 rfl) rfl (Nat.le_of_ble_eq_true rfl) rfl ?_
      refine e_aload_n (pc' := 55) (dAt D179 28 rfl) rfl rfl ?_
      refine e_getfield (pc' := 58) (dAt D179 29 rfl) rfl rfl hOx0 (hT_2.int hOx0 18 (by decide)) ?_
      refine e_if_eq (t := 65) (pc' := 61) (dAt D179 30 rfl) ⟨by decide, by decide⟩ rfl (fun c => ?_) (fun c => ?_)
      · replace h := h.1 c
        refine e_iconst (pc' := 66) (v := (-1)) (dAt D179 33 rfl) rfl (by decide) ?_
        exact e_ireturn (dAt D179 34 rfl) rfl ⟨rfl, fun e => by cases e⟩ h
      · replace h := h.2 c
        refine e_iload_n (pc' := 62) (dAt D179 31 rfl) rfl rfl ?_
        refine e_if_ne (t := 67) (pc' := 65) (dAt D179 32 rfl) ⟨by decide, by decide⟩ rfl (fun c => absurd c (by decide)) (fun c => ?_)
        refine e_iconst (pc' := 66) (v := (-1)) (dAt D179 33 rfl) rfl (by decide) ?_
        exact e_ireturn (dAt D179 34 rfl) rfl ⟨rfl, fun e => by cases e⟩ h
    · replace h := h.2 c
      refine e_aload_n (pc' := 27) (dAt D179 14 rfl) rfl rfl ?_
      refine e_iload_n (pc' := 28) (dAt D179 15 rfl) rfl rfl ?_
      exact e_call2 h (dAt D179 16 rfl) (hi0 rfl) rfl G161 (by decide) rfl (Nat.le_of_ble_eq_true rfl) (kV hOx0 rfl rfl) rfl rfl
  · replace h := h.2 c
    refine e_iload_n (pc' := 11) (dAt D179 6 rfl) rfl rfl ?_
    refine e_if_ne (t := 18) (pc' := 14) (dAt D179 7 rfl) ⟨by decide, by decide⟩ rfl (fun c => ?_) (fun c => ?_)
    · replace h := h.1 c
      refine e_iconst (pc' := 19) (v := 0) (dAt D179 10 rfl) rfl (by decide) ?_
      refine e_goto (t := 53) (dAt D179 11 rfl) ⟨by decide, by decide⟩ ?_
      refine e_istore_n (pc' := 54) (dAt D179 27 rfl) rfl (Nat.le_of_ble_eq_true rfl) rfl ?_
      refine e_aload_n (pc' := 55) (dAt D179 28 rfl) rfl rfl ?_
      refine e_getfield (pc' := 58) (dAt D179 29 rfl) rfl rfl hOx0 (hT_2.int hOx0 18 (by decide)) ?_
      refine e_if_eq (t := 65) (pc' := 61) (dAt D179 30 rfl) ⟨by decide, by decide⟩ rfl (fun c => ?_) (fun c => ?_)
      · replace h := h.1 c
        refine e_iconst (pc' := 66) (v := (-1)) (dAt D179 33 rfl) rfl (by decide) ?_
        exact e_ireturn (dAt D179 34 rfl) rfl ⟨rfl, fun e => by cases e⟩ h
      · replace h := h.2 c
        refine e_iload_n (pc' := 62) (dAt D179 31 rfl) rfl rfl ?_
        refine e_if_ne (t := 67) (pc' := 65) (dAt D179 32 rfl) ⟨by decide, by decide⟩ rfl (fun c => absurd c (by decide)) (fun c => ?_)
        refine e_iconst (pc' := 66) (v := (-1)) (dAt D179 33 rfl) rfl (by decide) ?_
        exact e_ireturn (dAt D179 34 rfl) rfl ⟨rfl, fun e => by cases e⟩ h
    · replace h := h.2 c
      refine e_iconst (pc' := 15) (v := 1) (dAt D179 8 rfl) rfl (by decide) ?_
      refine e_goto (t := 53) (dAt D179 9 rfl) ⟨by decide, by decide⟩ ?_
      refine e_istore_n (pc' := 54) (dAt D179 27 rfl) rfl (Nat.le_of_ble_eq_true rfl) rfl ?_
      refine e_aload_n (pc' := 55) (dAt D179 28 rfl) rfl rfl ?_
      refine e_getfield (pc' := 58) (dAt D179 29 rfl) rfl rfl hOx0 (hT_2.int hOx0 18 (by decide)) ?_
      refine e_if_eq (t := 65) (pc' := 61) (dAt D179 30 rfl) ⟨by decide, by decide⟩ rfl (fun c => ?_) (fun c => ?_)
      · replace h := h.1 c
        refine e_iconst (pc' := 66) (v := (-1)) (dAt D179 33 rfl) rfl (by decide) ?_
        exact e_ireturn (dAt D179 34 rfl) rfl ⟨rfl, fun e => by cases e⟩ h
      · replace h := h.2 c
        refine e_iload_n (pc' := 62) (dAt D179 31 rfl) rfl rfl ?_
        refine e_if_ne (t := 67) (pc' := 65) (dAt D179 32 rfl) ⟨by decide, by decide⟩ rfl (fun c => ?_) (fun c => absurd (by decide) c)
        refine e_aload_n (pc' := 68) (dAt D179 35 rfl) rfl rfl ?_
        exact e_call2 h (dAt D179 36 rfl) (hi0 rfl) rfl G180 (by decide) rfl (Nat.le_of_ble_eq_true rfl) (kV hOx0 rfl rfl) rfl rfl
-- PlaceNetsModel.node.(II)I, from 31
set_option maxRecDepth 20000 in
theorem bk179_31 {d b : Nat} {Q : Option Value → mMem → Prop} {m : mMem} {x0 : Nat} {x1 : Int32} {x2 : Int32} {x3 : Option Value} {y0 : Int32} (hT : mWT m) (hOx0 : m.1 x0 = some (.inr 8) ∧ x0 ≠ 0)
    (h : (((¬ y0 = 0) → ((((iF m x0 18) = 0) → (Q (some (.int ((-1)))) m)) ∧ (¬ ((iF m x0 18) = 0) → (mEv d 180 [.ref x0] m (fun r m' => mEs d 179 b g179 (71, [some (.ref x0), some (.int x1), some (.int x2), some (.int 1)], r.toList ++ [], m') Q))))) ∧ (¬ (¬ y0 = 0) → (mEv d 151 [.long x2.toInt64, .long 10, .long 12] m (fun r m' => mEs d 179 b g179 (45, [some (.ref x0), some (.int x1), some (.int x2), x3], r.toList ++ [], m') Q))))) :
    mEs d 179 b g179 (31, [some (.ref x0), some (.int x1), some (.int x2), x3], [.int y0], m) Q := by
  refine e_if_ne (t := 48) (pc' := 34) (dAt D179 17 rfl) ⟨by decide, by decide⟩ rfl (fun c => ?_) (fun c => ?_)
  · replace h := h.1 c
    refine e_iconst (pc' := 49) (v := 1) (dAt D179 24 rfl) rfl (by decide) ?_
    refine e_goto (t := 53) (dAt D179 25 rfl) ⟨by decide, by decide⟩ ?_
    refine e_istore_n (pc' := 54) (dAt D179 27 rfl) rfl (Nat.le_of_ble_eq_true rfl) rfl ?_
    refine e_aload_n (pc' := 55) (dAt D179 28 rfl) rfl rfl ?_
    refine e_getfield (pc' := 58) (dAt D179 29 rfl) rfl rfl hOx0 (hT.int hOx0 18 (by decide)) ?_
    refine e_if_eq (t := 65) (pc' := 61) (dAt D179 30 rfl) ⟨by decide, by decide⟩ rfl (fun c => ?_) (fun c => ?_)
    · replace h := h.1 c
      refine e_iconst (pc' := 66) (v := (-1)) (dAt D179 33 rfl) rfl (by decide) ?_
      exact e_ireturn (dAt D179 34 rfl) rfl ⟨rfl, fun e => by cases e⟩ h
    · replace h := h.2 c
      refine e_iload_n (pc' := 62) (dAt D179 31 rfl) rfl rfl ?_
      refine e_if_ne (t := 67) (pc' := 65) (dAt D179 32 rfl) ⟨by decide, by decide⟩ rfl (fun c => ?_) (fun c => absurd (by decide) c)
      refine e_aload_n (pc' := 68) (dAt D179 35 rfl) rfl rfl ?_
      exact e_call2 h (dAt D179 36 rfl) (hi0 rfl) rfl G180 (by decide) rfl (Nat.le_of_ble_eq_true rfl) (kV hOx0 rfl rfl) rfl rfl
  · replace h := h.2 c
    refine e_iload_n (pc' := 35) (dAt D179 18 rfl) rfl rfl ?_
    refine e_i2l (pc' := 36) (dAt D179 19 rfl) rfl ?_
    refine e_ldc2_w (pc' := 39) (dAt D179 20 rfl) rfl rfl ?_
    refine e_ldc2_w (pc' := 42) (dAt D179 21 rfl) rfl rfl ?_
    exact e_call2 h (dAt D179 22 rfl) (hi2 rfl) rfl G151 (by decide) rfl (Nat.le_of_ble_eq_true rfl) rfl rfl rfl
-- PlaceNetsModel.node.(II)I, from 45
set_option maxRecDepth 20000 in
theorem bk179_45 {d b : Nat} {Q : Option Value → mMem → Prop} {m : mMem} {x0 : Nat} {x1 : Int32} {x2 : Int32} {x3 : Option Value} {y0 : Int32} (hT : mWT m) (hOx0 : m.1 x0 = some (.inr 8) ∧ x0 ≠ 0)
    (h : (((y0 = 0) → ((((iF m x0 18) = 0) → (Q (some (.int ((-1)))) m)) ∧ (¬ ((iF m x0 18) = 0) → (Q (some (.int ((-1)))) m)))) ∧ (¬ (y0 = 0) → ((((iF m x0 18) = 0) → (Q (some (.int ((-1)))) m)) ∧ (¬ ((iF m x0 18) = 0) → (mEv d 180 [.ref x0] m (fun r m' => mEs d 179 b g179 (71, [some (.ref x0), some (.int x1), some (.int x2), some (.int 1)], r.toList ++ [], m') Q))))))) :
    mEs d 179 b g179 (45, [some (.ref x0), some (.int x1), some (.int x2), x3], [.int y0], m) Q := by
  refine e_if_eq (t := 52) (pc' := 48) (dAt D179 23 rfl) ⟨by decide, by decide⟩ rfl (fun c => ?_) (fun c => ?_)
  · replace h := h.1 c
    refine e_iconst (pc' := 53) (v := 0) (dAt D179 26 rfl) rfl (by decide) ?_
    refine e_istore_n (pc' := 54) (dAt D179 27 rfl) rfl (Nat.le_of_ble_eq_true rfl) rfl ?_
    refine e_aload_n (pc' := 55) (dAt D179 28 rfl) rfl rfl ?_
    refine e_getfield (pc' := 58) (dAt D179 29 rfl) rfl rfl hOx0 (hT.int hOx0 18 (by decide)) ?_
    refine e_if_eq (t := 65) (pc' := 61) (dAt D179 30 rfl) ⟨by decide, by decide⟩ rfl (fun c => ?_) (fun c => ?_)
    · replace h := h.1 c
      refine e_iconst (pc' := 66) (v := (-1)) (dAt D179 33 rfl) rfl (by decide) ?_
      exact e_ireturn (dAt D179 34 rfl) rfl ⟨rfl, fun e => by cases e⟩ h
    · replace h := h.2 c
      refine e_iload_n (pc' := 62) (dAt D179 31 rfl) rfl rfl ?_
      refine e_if_ne (t := 67) (pc' := 65) (dAt D179 32 rfl) ⟨by decide, by decide⟩ rfl (fun c => absurd c (by decide)) (fun c => ?_)
      refine e_iconst (pc' := 66) (v := (-1)) (dAt D179 33 rfl) rfl (by decide) ?_
      exact e_ireturn (dAt D179 34 rfl) rfl ⟨rfl, fun e => by cases e⟩ h
  · replace h := h.2 c
    refine e_iconst (pc' := 49) (v := 1) (dAt D179 24 rfl) rfl (by decide) ?_
    refine e_goto (t := 53) (dAt D179 25 rfl) ⟨by decide, by decide⟩ ?_
    refine e_istore_n (pc' := 54) (dAt D179 27 rfl) rfl (Nat.le_of_ble_eq_true rfl) rfl ?_
    refine e_aload_n (pc' := 55) (dAt D179 28 rfl) rfl rfl ?_
    refine e_getfield (pc' := 58) (dAt D179 29 rfl) rfl rfl hOx0 (hT.int hOx0 18 (by decide)) ?_
    refine e_if_eq (t := 65) (pc' := 61) (dAt D179 30 rfl) ⟨by decide, by decide⟩ rfl (fun c => ?_) (fun c => ?_)
    · replace h := h.1 c
      refine e_iconst (pc' := 66) (v := (-1)) (dAt D179 33 rfl) rfl (by decide) ?_
      exact e_ireturn (dAt D179 34 rfl) rfl ⟨rfl, fun e => by cases e⟩ h
    · replace h := h.2 c
      refine e_iload_n (pc' := 62) (dAt D179 31 rfl) rfl rfl ?_
      refine e_if_ne (t := 67) (pc' := 65) (dAt D179 32 rfl) ⟨by decide, by decide⟩ rfl (fun c => ?_) (fun c => absurd (by decide) c)
      refine e_aload_n (pc' := 68) (dAt D179 35 rfl) rfl rfl ?_
      exact e_call2 h (dAt D179 36 rfl) (hi0 rfl) rfl G180 (by decide) rfl (Nat.le_of_ble_eq_true rfl) (kV hOx0 rfl rfl) rfl rfl
-- PlaceNetsModel.node.(II)I, from 71
set_option maxRecDepth 20000 in
theorem bk179_71 {d b : Nat} {Q : Option Value → mMem → Prop} {m : mMem} {x0 : Nat} {x1 : Int32} {x2 : Int32} {x3 : Int32} (hT : mWT m) (hOx0 : m.1 x0 = some (.inr 8) ∧ x0 ≠ 0)
    (h : ((((iF m x0 26) ≤ 200) → (((¬ x1 = ((-1))) → (((x1 < (iF m x0 26)) → ((x2 = 10 → ((mIn x1 201 = true) ∧ (Q (some (.int (m.2.2.1 (64 * x0 + 12) x1.toNatClampNeg))) m))) ∧ (¬ x2 = 10 → ((x2 = 11 → ((mIn x1 201 = true) ∧ (Q (some (.int (m.2.2.1 (64 * x0 + 13) x1.toNatClampNeg))) m))) ∧ (¬ x2 = 11 → ((x2 = 12 → ((mIn x1 201 = true) ∧ (Q (some (.int (m.2.2.1 (64 * x0 + 14) x1.toNatClampNeg))) m))) ∧ (¬ x2 = 12 → ((mIn ((10 * x1) + x2) 2010 = true) ∧ (mEv d 185 [.int (m.2.2.1 (64 * x0 + 11) ((10 * x1) + x2).toNatClampNeg)] m (fun r m' => mEs d 179 b g179 (167, [some (.ref x0), some (.int x1), some (.int x2), some (.int x3)], r.toList ++ [], m') Q)))))))))) ∧ (¬ (x1 < (iF m x0 26)) → (Q (some (.int ((-1)))) m)))) ∧ (¬ (¬ x1 = ((-1))) → (Q (some (.int (iF m x0 26))) m)))) ∧ (¬ ((iF m x0 26) ≤ 200) → (Q (some (.int ((-2)))) m)))) :
    mEs d 179 b g179 (71, [some (.ref x0), some (.int x1), some (.int x2), some (.int x3)], [], m) Q := by
  refine e_aload_n (pc' := 72) (dAt D179 37 rfl) rfl rfl ?_
  refine e_getfield (pc' := 75) (dAt D179 38 rfl) rfl rfl hOx0 (hT.int hOx0 26 (by decide)) ?_
  refine e_sipush (pc' := 78) (v := 200) (dAt D179 39 rfl) rfl (by decide) ?_
  refine e_icmp_le (t := 84) (pc' := 81) (dAt D179 40 rfl) ⟨by decide, by decide⟩ rfl (fun c => ?_) (fun c => ?_)
  · replace h := h.1 c
    refine e_iload_n (pc' := 85) (dAt D179 43 rfl) rfl rfl ?_
    refine e_iconst (pc' := 86) (v := (-1)) (dAt D179 44 rfl) rfl (by decide) ?_
    refine e_icmp_ne (t := 94) (pc' := 89) (dAt D179 45 rfl) ⟨by decide, by decide⟩ rfl (fun c => ?_) (fun c => ?_)
    · replace h := h.1 c
      refine e_iload_n (pc' := 95) (dAt D179 49 rfl) rfl rfl ?_
      refine e_aload_n (pc' := 96) (dAt D179 50 rfl) rfl rfl ?_
      refine e_getfield (pc' := 99) (dAt D179 51 rfl) rfl rfl hOx0 (hT.int hOx0 26 (by decide)) ?_
      refine e_icmp_lt (t := 104) (pc' := 102) (dAt D179 52 rfl) ⟨by decide, by decide⟩ rfl (fun c => ?_) (fun c => ?_)
      · replace h := h.1 c
        refine e_iload_n (pc' := 105) (dAt D179 55 rfl) rfl rfl ?_
        refine vc_if h (fun c0 h => ?_) (fun c0 h => ?_)
        · refine e_tableswitch (off := 27) (t := 132) (dAt D179 56 rfl) (by rw [c0]; rfl) ⟨by decide, by decide⟩ ?_
          refine e_aload_n (pc' := 133) (dAt D179 57 rfl) rfl rfl ?_
          refine e_getfield (pc' := 136) (dAt D179 58 rfl) rfl rfl hOx0 (hT.own hOx0 11 rfl) ?_
          refine e_iload_n (pc' := 137) (dAt D179 59 rfl) rfl rfl ?_
          obtain ⟨f1, h⟩ := h
          refine e_iaload (pc' := 138) (dAt D179 60 rfl) rfl (hT.arr hOx0 11 rfl (by decide)).1 (Or.inl (hT.arr hOx0 11 rfl (by decide)).2) f1 rfl ?_
          exact e_ireturn (dAt D179 61 rfl) rfl ⟨rfl, fun e => by cases e⟩ h
        · skip
          refine vc_if h (fun c1 h => ?_) (fun c1 h => ?_)
          · refine e_tableswitch (off := 34) (t := 139) (dAt D179 56 rfl) (by rw [c1]; rfl) ⟨by decide, by decide⟩ ?_
            refine e_aload_n (pc' := 140) (dAt D179 62 rfl) rfl rfl ?_
            refine e_getfield (pc' := 143) (dAt D179 63 rfl) rfl rfl hOx0 (hT.own hOx0 12 rfl) ?_
            refine e_iload_n (pc' := 144) (dAt D179 64 rfl) rfl rfl ?_
            obtain ⟨f1, h⟩ := h
            refine e_iaload (pc' := 145) (dAt D179 65 rfl) rfl (hT.arr hOx0 12 rfl (by decide)).1 (Or.inl (hT.arr hOx0 12 rfl (by decide)).2) f1 rfl ?_
            exact e_ireturn (dAt D179 66 rfl) rfl ⟨rfl, fun e => by cases e⟩ h
          · skip
            refine vc_if h (fun c2 h => ?_) (fun c2 h => ?_)
            · refine e_tableswitch (off := 41) (t := 146) (dAt D179 56 rfl) (by rw [c2]; rfl) ⟨by decide, by decide⟩ ?_
              refine e_aload_n (pc' := 147) (dAt D179 67 rfl) rfl rfl ?_
              refine e_getfield (pc' := 150) (dAt D179 68 rfl) rfl rfl hOx0 (hT.own hOx0 13 rfl) ?_
              refine e_iload_n (pc' := 151) (dAt D179 69 rfl) rfl rfl ?_
              obtain ⟨f1, h⟩ := h
              refine e_iaload (pc' := 152) (dAt D179 70 rfl) rfl (hT.arr hOx0 13 rfl (by decide)).1 (Or.inl (hT.arr hOx0 13 rfl (by decide)).2) f1 rfl ?_
              exact e_ireturn (dAt D179 71 rfl) rfl ⟨rfl, fun e => by cases e⟩ h
            · skip
              refine e_tableswitch (off := 48) (t := 153) (dAt D179 56 rfl) (if_pos (sw_out (fun k h1 h2 e => by
                have hk : k = 10 ∨ k = 11 ∨ k = 12 := by omega
                rcases hk with rfl | rfl | rfl
                · exact c0 (Int32.toInt_inj.mp (e.trans (by decide)))
                · exact c1 (Int32.toInt_inj.mp (e.trans (by decide)))
                · exact c2 (Int32.toInt_inj.mp (e.trans (by decide)))
                ))) ⟨by decide, by decide⟩ ?_
              refine e_aload_n (pc' := 154) (dAt D179 72 rfl) rfl rfl ?_
              refine e_getfield (pc' := 157) (dAt D179 73 rfl) rfl rfl hOx0 (hT.own hOx0 10 rfl) ?_
              refine e_bipush (pc' := 159) (v := 10) (dAt D179 74 rfl) rfl (by decide) ?_
              refine e_iload_n (pc' := 160) (dAt D179 75 rfl) rfl rfl ?_
              refine e_imul (pc' := 161) (dAt D179 76 rfl) rfl ?_
              refine e_iload_n (pc' := 162) (dAt D179 77 rfl) rfl rfl ?_
              refine e_iadd (pc' := 163) (dAt D179 78 rfl) rfl ?_
              obtain ⟨f1, h⟩ := h
              refine e_iaload (pc' := 164) (dAt D179 79 rfl) rfl (hT.arr hOx0 10 rfl (by decide)).1 (Or.inl (hT.arr hOx0 10 rfl (by decide)).2) f1 rfl ?_
              exact e_call2 h (dAt D179 80 rfl) (hi2 rfl) rfl G185 (by decide) rfl (Nat.le_of_ble_eq_true rfl) rfl rfl rfl
      · replace h := h.2 c
        refine e_iconst (pc' := 103) (v := (-1)) (dAt D179 53 rfl) rfl (by decide) ?_
        exact e_ireturn (dAt D179 54 rfl) rfl ⟨rfl, fun e => by cases e⟩ h
    · replace h := h.2 c
      refine e_aload_n (pc' := 90) (dAt D179 46 rfl) rfl rfl ?_
      refine e_getfield (pc' := 93) (dAt D179 47 rfl) rfl rfl hOx0 (hT.int hOx0 26 (by decide)) ?_
      exact e_ireturn (dAt D179 48 rfl) rfl ⟨rfl, fun e => by cases e⟩ h
  · replace h := h.2 c
    refine e_bipush (pc' := 83) (v := (-2)) (dAt D179 41 rfl) rfl (by decide) ?_
    exact e_ireturn (dAt D179 42 rfl) rfl ⟨rfl, fun e => by cases e⟩ h
-- PlaceNetsModel.node.(II)I, from 167
set_option maxRecDepth 20000 in
theorem bk179_167 {d b : Nat} {Q : Option Value → mMem → Prop} {m : mMem} {x0 : Nat} {x1 : Int32} {x2 : Int32} {x3 : Int32} {y0 : Int32} (hT : mWT m) (hOx0 : m.1 x0 = some (.inr 8) ∧ x0 ≠ 0)
    (h : Q (some (.int y0)) m) :
    mEs d 179 b g179 (167, [some (.ref x0), some (.int x1), some (.int x2), some (.int x3)], [.int y0], m) Q := by
  exact e_ireturn (dAt D179 81 rfl) rfl ⟨rfl, fun e => by cases e⟩ h
-- PlaceNetsModel.cover.()V, from 0
set_option maxRecDepth 20000 in
theorem bk180_0 {d b : Nat} {Q : Option Value → mMem → Prop} {m : mMem} {x0 : Nat} {x1 : Option Value} {x2 : Option Value} {x3 : Option Value} (hT : mWT m) (hOx0 : m.1 x0 = some (.inr 8) ∧ x0 ≠ 0)
    (h : ((((iF m x0 21) = 0) → (∀ (m_1 : mMem), m_1 = (mSetF m x0 21 (.int 1)) → ∀ (m_3 : mMem), m_3 = (mSetF m_1 x0 26 (.int 0)) → mEv d 181 [.ref x0, .int ((-1)), .int ((-1))] m_3 (fun r m' => mEs d 180 b g180 (24, [some (.ref x0), x1, x2, x3], r.toList ++ [], m') Q))) ∧ (¬ ((iF m x0 21) = 0) → (Q none m)))) :
    mEs d 180 b g180 (0, [some (.ref x0), x1, x2, x3], [], m) Q := by
  refine e_aload_n (pc' := 1) (dAt D180 0 rfl) rfl rfl ?_
  refine e_getfield (pc' := 4) (dAt D180 1 rfl) rfl rfl hOx0 (hT.int hOx0 21 (by decide)) ?_
  refine e_if_eq (t := 8) (pc' := 7) (dAt D180 2 rfl) ⟨by decide, by decide⟩ rfl (fun c => ?_) (fun c => ?_)
  · replace h := h.1 c
    refine e_aload_n (pc' := 9) (dAt D180 4 rfl) rfl rfl ?_
    refine e_iconst (pc' := 10) (v := 1) (dAt D180 5 rfl) rfl (by decide) ?_
    replace h := h _ rfl
    refine e_putfield (pc' := 13) (dAt D180 6 rfl) rfl rfl hOx0 rfl rfl (fun e => by cases e) ?_
    refine wtF hT hOx0 (by decide) (fun hT_2 => ?_)
    refine e_aload_n (pc' := 14) (dAt D180 7 rfl) rfl rfl ?_
    refine e_iconst (pc' := 15) (v := 0) (dAt D180 8 rfl) rfl (by decide) ?_
    replace h := h _ rfl
    refine e_putfield (pc' := 18) (dAt D180 9 rfl) rfl rfl hOx0 rfl rfl (fun e => by cases e) ?_
    refine wtF hT_2 hOx0 (by decide) (fun hT_4 => ?_)
    refine e_aload_n (pc' := 19) (dAt D180 10 rfl) rfl rfl ?_
    refine e_iconst (pc' := 20) (v := (-1)) (dAt D180 11 rfl) rfl (by decide) ?_
    refine e_iconst (pc' := 21) (v := (-1)) (dAt D180 12 rfl) rfl (by decide) ?_
    exact e_call2 h (dAt D180 13 rfl) (hi0 rfl) rfl G181 (by decide) rfl (Nat.le_of_ble_eq_true rfl) (kV hOx0 rfl rfl) rfl rfl
  · replace h := h.2 c
    exact e_return (dAt D180 3 rfl) rfl h
-- PlaceNetsModel.cover.()V, from 24
set_option maxRecDepth 20000 in
theorem bk180_24 {d b : Nat} {Q : Option Value → mMem → Prop} {m : mMem} {x0 : Nat} {x1 : Option Value} {x2 : Option Value} {x3 : Option Value} (hT : mWT m) (hOx0 : m.1 x0 = some (.inr 8) ∧ x0 ≠ 0)
    (h : mEs d 180 b g180 (26, [some (.ref x0), some (.int 0), x2, x3], [], m) Q) :
    mEs d 180 b g180 (24, [some (.ref x0), x1, x2, x3], [], m) Q := by
  refine e_iconst (pc' := 25) (v := 0) (dAt D180 14 rfl) rfl (by decide) ?_
  refine e_istore_n (pc' := 26) (dAt D180 15 rfl) rfl (Nat.le_of_ble_eq_true rfl) rfl ?_
  exact h
-- PlaceNetsModel.cover.()V, from 26
set_option maxRecDepth 20000 in
theorem bk180_26 {d b : Nat} {Q : Option Value → mMem → Prop} {m : mMem} {x0 : Nat} {x1 : Int32} {x2 : Option Value} {x3 : Option Value} (hT : mWT m) (hOx0 : m.1 x0 = some (.inr 8) ∧ x0 ≠ 0)
    (h : ((((iF m x0 26) ≤ x1) → (Q none m)) ∧ (¬ ((iF m x0 26) ≤ x1) → (((200 < (iF m x0 26)) → (Q none m)) ∧ (¬ (200 < (iF m x0 26)) → (mEv d 183 [.ref x0, .int x1] m (fun r m' => mEs d 180 b g180 (49, [some (.ref x0), some (.int x1), x2, x3], r.toList ++ [], m') Q))))))) :
    mEs d 180 b g180 (26, [some (.ref x0), some (.int x1), x2, x3], [], m) Q := by
  refine e_iload_n (pc' := 27) (dAt D180 16 rfl) rfl rfl ?_
  refine e_aload_n (pc' := 28) (dAt D180 17 rfl) rfl rfl ?_
  refine e_getfield (pc' := 31) (dAt D180 18 rfl) rfl rfl hOx0 (hT.int hOx0 26 (by decide)) ?_
  refine e_icmp_ge (t := 133) (pc' := 34) (dAt D180 19 rfl) ⟨by decide, by decide⟩ rfl (fun c => ?_) (fun c => ?_)
  · replace h := h.1 c
    exact e_return (dAt D180 73 rfl) rfl h
  · replace h := h.2 c
    refine e_aload_n (pc' := 35) (dAt D180 20 rfl) rfl rfl ?_
    refine e_getfield (pc' := 38) (dAt D180 21 rfl) rfl rfl hOx0 (hT.int hOx0 26 (by decide)) ?_
    refine e_sipush (pc' := 41) (v := 200) (dAt D180 22 rfl) rfl (by decide) ?_
    refine e_icmp_gt (t := 133) (pc' := 44) (dAt D180 23 rfl) ⟨by decide, by decide⟩ rfl (fun c => ?_) (fun c => ?_)
    · replace h := h.1 c
      exact e_return (dAt D180 73 rfl) rfl h
    · replace h := h.2 c
      refine e_aload_n (pc' := 45) (dAt D180 24 rfl) rfl rfl ?_
      refine e_iload_n (pc' := 46) (dAt D180 25 rfl) rfl rfl ?_
      exact e_call2 h (dAt D180 26 rfl) (hi0 rfl) rfl G183 (by decide) rfl (Nat.le_of_ble_eq_true rfl) (kV hOx0 rfl rfl) rfl rfl
-- PlaceNetsModel.cover.()V, from 49
set_option maxRecDepth 20000 in
theorem bk180_49 {d b : Nat} {Q : Option Value → mMem → Prop} {m : mMem} {x0 : Nat} {x1 : Int32} {x2 : Option Value} {x3 : Option Value} {y0 : Int32} (hT : mWT m) (hOx0 : m.1 x0 = some (.inr 8) ∧ x0 ≠ 0)
    (h : mEv d 184 [.ref x0, .int x1] m (fun r m' => mEs d 180 b g180 (60, [some (.ref x0), some (.int x1), some (.int y0), x3], r.toList ++ [.int x1, .ref (64 * x0 + 14)], m') Q)) :
    mEs d 180 b g180 (49, [some (.ref x0), some (.int x1), x2, x3], [.int y0], m) Q := by
  refine e_istore_n (pc' := 50) (dAt D180 27 rfl) rfl (Nat.le_of_ble_eq_true rfl) rfl ?_
  refine e_aload_n (pc' := 51) (dAt D180 28 rfl) rfl rfl ?_
  refine e_getfield (pc' := 54) (dAt D180 29 rfl) rfl rfl hOx0 (hT.own hOx0 13 rfl) ?_
  refine e_iload_n (pc' := 55) (dAt D180 30 rfl) rfl rfl ?_
  refine e_aload_n (pc' := 56) (dAt D180 31 rfl) rfl rfl ?_
  refine e_iload_n (pc' := 57) (dAt D180 32 rfl) rfl rfl ?_
  exact e_call2 h (dAt D180 33 rfl) (hi0 rfl) rfl G184 (by decide) rfl (Nat.le_of_ble_eq_true rfl) (kV hOx0 rfl rfl) rfl rfl
-- PlaceNetsModel.cover.()V, from 60
set_option maxRecDepth 20000 in
theorem bk180_60 {d b : Nat} {Q : Option Value → mMem → Prop} {m : mMem} {x0 : Nat} {x1 : Int32} {x2 : Int32} {x3 : Option Value} {y0 : Nat} {ly0 : Nat} {y1 : Int32} {y2 : Int32} (hT : mWT m) (hOx0 : m.1 x0 = some (.inr 8) ∧ x0 ≠ 0) (hAy0 : m.1 y0 = some (.inl (.int, ly0)) ∧ y0 ≠ 0)
    (h : (((y2 = 0) → (((¬ x2 = 0) → ((mIn y1 ly0 = true) ∧ (∀ (m_1 : mMem), m_1 = (mSetI m y0 (upd (m.2.2.1 y0) y1.toNatClampNeg 0)) → mEs d 180 b g180 (79, [some (.ref x0), some (.int x1), some (.int x2), some (.int 0)], [], m_1) Q))) ∧ (¬ (¬ x2 = 0) → ((mIn y1 ly0 = true) ∧ (∀ (m_3 : mMem), m_3 = (mSetI m y0 (upd (m.2.2.1 y0) y1.toNatClampNeg 1)) → mEs d 180 b g180 (79, [some (.ref x0), some (.int x1), some (.int x2), some (.int 0)], [], m_3) Q))))) ∧ (¬ (y2 = 0) → ((mIn y1 ly0 = true) ∧ (∀ (m_5 : mMem), m_5 = (mSetI m y0 (upd (m.2.2.1 y0) y1.toNatClampNeg 2)) → mEs d 180 b g180 (79, [some (.ref x0), some (.int x1), some (.int x2), some (.int 0)], [], m_5) Q))))) :
    mEs d 180 b g180 (60, [some (.ref x0), some (.int x1), some (.int x2), x3], [.int y2, .int y1, .ref y0], m) Q := by
  refine e_if_eq (t := 67) (pc' := 63) (dAt D180 34 rfl) ⟨by decide, by decide⟩ rfl (fun c => ?_) (fun c => ?_)
  · replace h := h.1 c
    refine e_iload_n (pc' := 68) (dAt D180 37 rfl) rfl rfl ?_
    refine e_if_ne (t := 75) (pc' := 71) (dAt D180 38 rfl) ⟨by decide, by decide⟩ rfl (fun c => ?_) (fun c => ?_)
    · replace h := h.1 c
      refine e_iconst (pc' := 76) (v := 0) (dAt D180 41 rfl) rfl (by decide) ?_
      obtain ⟨f1, h⟩ := h
      replace h := h _ rfl
      refine e_iastore (pc' := 77) (dAt D180 42 rfl) rfl hAy0.1 hAy0.2 f1 (nar_i _) ?_
      refine wtI hT (fun hT_2 => ?_)
      refine e_iconst (pc' := 78) (v := 0) (dAt D180 43 rfl) rfl (by decide) ?_
      refine e_istore_n (pc' := 79) (dAt D180 44 rfl) rfl (Nat.le_of_ble_eq_true rfl) rfl ?_
      exact h
    · replace h := h.2 c
      refine e_iconst (pc' := 72) (v := 1) (dAt D180 39 rfl) rfl (by decide) ?_
      refine e_goto (t := 76) (dAt D180 40 rfl) ⟨by decide, by decide⟩ ?_
      obtain ⟨f1, h⟩ := h
      replace h := h _ rfl
      refine e_iastore (pc' := 77) (dAt D180 42 rfl) rfl hAy0.1 hAy0.2 f1 (nar_i _) ?_
      refine wtI hT (fun hT_4 => ?_)
      refine e_iconst (pc' := 78) (v := 0) (dAt D180 43 rfl) rfl (by decide) ?_
      refine e_istore_n (pc' := 79) (dAt D180 44 rfl) rfl (Nat.le_of_ble_eq_true rfl) rfl ?_
      exact h
  · replace h := h.2 c
    refine e_iconst (pc' := 64) (v := 2) (dAt D180 35 rfl) rfl (by decide) ?_
    refine e_goto (t := 76) (dAt D180 36 rfl) ⟨by decide, by decide⟩ ?_
    obtain ⟨f1, h⟩ := h
    replace h := h _ rfl
    refine e_iastore (pc' := 77) (dAt D180 42 rfl) rfl hAy0.1 hAy0.2 f1 (nar_i _) ?_
    refine wtI hT (fun hT_6 => ?_)
    refine e_iconst (pc' := 78) (v := 0) (dAt D180 43 rfl) rfl (by decide) ?_
    refine e_istore_n (pc' := 79) (dAt D180 44 rfl) rfl (Nat.le_of_ble_eq_true rfl) rfl ?_
    exact h
-- PlaceNetsModel.cover.()V, from 79
set_option maxRecDepth 20000 in
theorem bk180_79 {d b : Nat} {Q : Option Value → mMem → Prop} {m : mMem} {x0 : Nat} {x1 : Int32} {x2 : Int32} {x3 : Int32} (hT : mWT m) (hOx0 : m.1 x0 = some (.inr 8) ∧ x0 ≠ 0)
    (h : ((((iF m x0 7) ≤ x3) → (∀ (v_1 : Int32), v_1 = (x1 + 1) → mEs d 180 b g180 (26, [some (.ref x0), some (.int v_1), some (.int x2), some (.int x3)], [], m) Q)) ∧ (¬ ((iF m x0 7) ≤ x3) → ((mIn x1 201 = true) ∧ (((¬ (m.2.2.1 (64 * x0 + 14) x1.toNatClampNeg) = 0) → (∀ (v_2 : Int32), v_2 = (x1 + 1) → mEs d 180 b g180 (26, [some (.ref x0), some (.int v_2), some (.int x2), some (.int x3)], [], m) Q)) ∧ (¬ (¬ (m.2.2.1 (64 * x0 + 14) x1.toNatClampNeg) = 0) → (((200 < (iF m x0 26)) → (∀ (v_3 : Int32), v_3 = (x1 + 1) → mEs d 180 b g180 (26, [some (.ref x0), some (.int v_3), some (.int x2), some (.int x3)], [], m) Q)) ∧ (¬ (200 < (iF m x0 26)) → (((¬ ((x2 >>> (x3 &&& 31)) &&& 1) = 1) → (mEs d 180 b g180 (121, [some (.ref x0), some (.int x1), some (.int x2), some (.int x3)], [], m) Q)) ∧ (¬ (¬ ((x2 >>> (x3 &&& 31)) &&& 1) = 1) → (mEv d 181 [.ref x0, .int x1, .int x3] m (fun r m' => mEs d 180 b g180 (121, [some (.ref x0), some (.int x1), some (.int x2), some (.int x3)], r.toList ++ [], m') Q)))))))))))) :
    mEs d 180 b g180 (79, [some (.ref x0), some (.int x1), some (.int x2), some (.int x3)], [], m) Q := by
  refine e_iload_n (pc' := 80) (dAt D180 45 rfl) rfl rfl ?_
  refine e_aload_n (pc' := 81) (dAt D180 46 rfl) rfl rfl ?_
  refine e_getfield (pc' := 84) (dAt D180 47 rfl) rfl rfl hOx0 (hT.int hOx0 7 (by decide)) ?_
  refine e_icmp_ge (t := 127) (pc' := 87) (dAt D180 48 rfl) ⟨by decide, by decide⟩ rfl (fun c => ?_) (fun c => ?_)
  · replace h := h.1 c
    replace h := h _ rfl
    refine e_iinc (pc' := 130) (dAt D180 71 rfl) rfl rfl (Nat.le_of_ble_eq_true rfl) (congrArg (_ + ·) (show Int32.ofInt (1) = (1 : Int32) by decide)) rfl ?_
    refine e_goto (t := 26) (dAt D180 72 rfl) ⟨by decide, by decide⟩ ?_
    exact h
  · replace h := h.2 c
    refine e_aload_n (pc' := 88) (dAt D180 49 rfl) rfl rfl ?_
    refine e_getfield (pc' := 91) (dAt D180 50 rfl) rfl rfl hOx0 (hT.own hOx0 13 rfl) ?_
    refine e_iload_n (pc' := 92) (dAt D180 51 rfl) rfl rfl ?_
    obtain ⟨f1, h⟩ := h
    refine e_iaload (pc' := 93) (dAt D180 52 rfl) rfl (hT.arr hOx0 13 rfl (by decide)).1 (Or.inl (hT.arr hOx0 13 rfl (by decide)).2) f1 rfl ?_
    refine e_if_ne (t := 127) (pc' := 96) (dAt D180 53 rfl) ⟨by decide, by decide⟩ rfl (fun c => ?_) (fun c => ?_)
    · replace h := h.1 c
      replace h := h _ rfl
      refine e_iinc (pc' := 130) (dAt D180 71 rfl) rfl rfl (Nat.le_of_ble_eq_true rfl) (congrArg (_ + ·) (show Int32.ofInt (1) = (1 : Int32) by decide)) rfl ?_
      refine e_goto (t := 26) (dAt D180 72 rfl) ⟨by decide, by decide⟩ ?_
      exact h
    · replace h := h.2 c
      refine e_aload_n (pc' := 97) (dAt D180 54 rfl) rfl rfl ?_
      refine e_getfield (pc' := 100) (dAt D180 55 rfl) rfl rfl hOx0 (hT.int hOx0 26 (by decide)) ?_
      refine e_sipush (pc' := 103) (v := 200) (dAt D180 56 rfl) rfl (by decide) ?_
      refine e_icmp_gt (t := 127) (pc' := 106) (dAt D180 57 rfl) ⟨by decide, by decide⟩ rfl (fun c => ?_) (fun c => ?_)
      · replace h := h.1 c
        replace h := h _ rfl
        refine e_iinc (pc' := 130) (dAt D180 71 rfl) rfl rfl (Nat.le_of_ble_eq_true rfl) (congrArg (_ + ·) (show Int32.ofInt (1) = (1 : Int32) by decide)) rfl ?_
        refine e_goto (t := 26) (dAt D180 72 rfl) ⟨by decide, by decide⟩ ?_
        exact h
      · replace h := h.2 c
        refine e_iload_n (pc' := 107) (dAt D180 58 rfl) rfl rfl ?_
        refine e_iload_n (pc' := 108) (dAt D180 59 rfl) rfl rfl ?_
        refine e_ishr (pc' := 109) (dAt D180 60 rfl) rfl ?_
        refine e_iconst (pc' := 110) (v := 1) (dAt D180 61 rfl) rfl (by decide) ?_
        refine e_iand (pc' := 111) (dAt D180 62 rfl) rfl ?_
        refine e_iconst (pc' := 112) (v := 1) (dAt D180 63 rfl) rfl (by decide) ?_
        refine e_icmp_ne (t := 121) (pc' := 115) (dAt D180 64 rfl) ⟨by decide, by decide⟩ rfl (fun c => ?_) (fun c => ?_)
        · replace h := h.1 c
          exact h
        · replace h := h.2 c
          refine e_aload_n (pc' := 116) (dAt D180 65 rfl) rfl rfl ?_
          refine e_iload_n (pc' := 117) (dAt D180 66 rfl) rfl rfl ?_
          refine e_iload_n (pc' := 118) (dAt D180 67 rfl) rfl rfl ?_
          exact e_call2 h (dAt D180 68 rfl) (hi0 rfl) rfl G181 (by decide) rfl (Nat.le_of_ble_eq_true rfl) (kV hOx0 rfl rfl) rfl rfl
-- PlaceNetsModel.cover.()V, from 121
set_option maxRecDepth 20000 in
theorem bk180_121 {d b : Nat} {Q : Option Value → mMem → Prop} {m : mMem} {x0 : Nat} {x1 : Int32} {x2 : Int32} {x3 : Int32} (hT : mWT m) (hOx0 : m.1 x0 = some (.inr 8) ∧ x0 ≠ 0)
    (h : ∀ (v_1 : Int32), v_1 = (x3 + 1) → mEs d 180 b g180 (79, [some (.ref x0), some (.int x1), some (.int x2), some (.int v_1)], [], m) Q) :
    mEs d 180 b g180 (121, [some (.ref x0), some (.int x1), some (.int x2), some (.int x3)], [], m) Q := by
  replace h := h _ rfl
  refine e_iinc (pc' := 124) (dAt D180 69 rfl) rfl rfl (Nat.le_of_ble_eq_true rfl) (congrArg (_ + ·) (show Int32.ofInt (1) = (1 : Int32) by decide)) rfl ?_
  refine e_goto (t := 79) (dAt D180 70 rfl) ⟨by decide, by decide⟩ ?_
  exact h
